section
/-! ===== BEGIN words of one list among another's, by their places ===== -/
theorem goodIn_r {big : List Cond} (ws : List Cond) (ps : List Nat) (hp : ws = ps.filterMap (fun i => big[i]?)) (h : ws.all goodWord = true) : GoodIn big ws := by
  intro w hw
  have h1 := List.all_eq_true.mp h w hw
  rw [hp] at hw
  obtain ⟨i, -, hi⟩ := List.mem_filterMap.mp hw
  have hm : w ∈ big := by first | exact List.mem_of_getElem? hi | exact List.getElem?_mem hi
  exact ⟨hm, good_of_word h1⟩
theorem goodIn_app {big a b : List Cond} (ha : GoodIn big a) (hb : GoodIn big b) : GoodIn big (a ++ b) := fun w h => (List.mem_append.mp h).elim (ha w) (hb w)
theorem goodIn_ca {big a b : List Cond} {c : Cond} (ha : GoodIn big (c :: a)) (hb : GoodIn big b) : GoodIn big (c :: (a ++ b)) := fun w h => (List.mem_cons.mp h).elim (fun e => ha w (List.mem_cons.mpr (Or.inl e))) (fun h => (List.mem_append.mp h).elim (fun h => ha w (List.mem_cons.mpr (Or.inr h))) (hb w))
theorem goodIn_sub {big ws : List Cond} (hm : ∀ w ∈ ws, w ∈ big) (h : ws.all goodWord = true) : GoodIn big ws := fun w hw => ⟨hm w hw, good_of_word (List.all_eq_true.mp h w hw)⟩
/-! ===== END ===== -/
/-! ===== BEGIN exceptions that leave a method, and their catching by the caller (launches without stack traces) ===== -/
section VXA
/-! The laws vx_back, vx_callV, vx_callS, vx_callSW, vx_throw0, vx_throwS follow proofs of the library, with one case more: JvmDerived/Free/Laws.lean (Back.of_free), Shelf42/LK1.lean (callV, callS), Shelf/KitTraced.lean (throwNew0V, throwNewS). -/
/-- where a method has thrown q: the class by its name, the cell, what was written, the world -/
def vx_T (XC : String → State → State → Prop) (st : State) (q : Addr) (t : State) (mc ms : Nat) (free : Addr → Prop) : Prop :=
  ∃ (E : String) (ce : Cell) (L : List Loc), XC E st t ∧ t.heap[q]? = some ce ∧ ce.vm = .none ∧ st.vm.findClass E = some ce.cls ∧ st.WarmedH t.vm ∧ st.sameButNew ({ t with vm := st.vm } : State) L mc ms ∧ ∀ z ∈ L, free z.base
def vx_Q (Qc : Array Value → State → Outcome → State → Prop) (XC : String → State → State → Prop) (mc ms : Nat) (free : Addr → Prop) : Array Value → State → Outcome → State → Prop := fun a st o t =>
  (Qc a st o t ∧ ∃ L, FrameEnd st o t L mc ms ∧ ∀ q ∈ L, free q.base) ∨ ∃ q, o = .threw q ∧ vx_T XC st q t mc ms free
/-- a callee that returns or throws -/
def vx_Met (l : Launch) (y : MethodName) (ws : List Cond) (rm : Room) (Pc : Array Value → State → Prop) (Qc : Array Value → State → Outcome → State → Prop) (XC : String → State → State → Prop) (mc ms : Nat) (free : Addr → Prop) : Prop :=
  MetFree l y (headSpec ws rm) Pc (fun _ _ _ _ _ => True) (vx_Q Qc XC mc ms free)
def vx_Post (XC : String → State → State → Prop) (mc ms : Nat) (free : Addr → Prop) : Pt → Array Value → Addr → Pt → Prop := fun A a q B =>
  ∃ (g : JFrame) (mk : MethodId) (t : State) (L : List Loc) (E : String) (ce : Cell), B.U.heap = t.heap ∧ B.U.vm = t.vm ∧ XC E (A.U.calling g mk a) t ∧ t.heap[q]? = some ce ∧ ce.vm = .none ∧ A.U.vm.findClass E = some ce.cls ∧ B.locs = A.locs ++ L ∧ (∀ z ∈ L, free z.base) ∧ B.cells = A.cells + mc ∧ B.slots = A.slots + ms
def vx_Back (l : Launch) (R : Room) (p : Program) (e : Env) (below : List Frame) (s : State) (sargs : Array Value) (y : MethodName) (len W9 : Nat)
    (Pre : Pt → Array Value → Prop) (Post : Pt → Array Value → Option Value → Pt → Prop) (PostX : Pt → Array Value → Addr → Pt → Prop) : Prop :=
  ∀ (m : MethodId) (meth : Method) (c : Code) (A : Pt) (g : JFrame) (ig : Instr) (mk : MethodId) (a : Array Value),
    Stand p l e R s m sargs below meth c A.U A.locs A.cells A.slots → g.method = m → g.locals.size = c.maxLocals → decode c.code g.pc = .ok (ig, len) →
    2 * g.monitorRoom + (g.stack.map fun v => v.category).sum ≤ W9 → A.U.methodNamed? y = some mk → Pre A a →
    (∃ (v : Option Value) (B : Pt), Stand p l e R s m sargs below meth c B.U B.locs B.cells B.slots ∧ Post A a v B ∧
      Steps p.tables e below (doInvoke e (A.U.setTop g) [] mk a).1 (B.U.setTop { g with pc := g.pc + len, stack := v.toList ++ g.stack })) ∨
    (∃ (q : Addr) (B : Pt), Stand p l e R s m sargs below meth c B.U B.locs B.cells B.slots ∧ PostX A a q B ∧
      Steps p.tables e below (doInvoke e (A.U.setTop g) [] mk a).1 ((B.U.setTop g).pushFrame (.throwing q)))
section Payer
variable {l : Launch} {R : Room} {p : Program} {e : Env} {below : List Frame} {s : State} {sargs : Array Value} {y : MethodName} {len W9 : Nat}
theorem vx_back {ws : List Cond} {rm : Room} {Pc : Array Value → State → Prop} {Qc : Array Value → State → Outcome → State → Prop} {XC : String → State → State → Prop} {mc ms : Nat} {free : Addr → Prop} {bytes : ByteArray} {maxL : Nat} {ret : Option FieldType}
    (hM : vx_Met l y ws rm Pc Qc XC mc ms free) (hblind : FrameBlind Pc) (hrc : rm.cells = mc) (hrs : rm.slots = ms)
    (hframes : rm.frames + 1 ≤ R.frames) (hlocals : W9 + (maxL + 11) + rm.locals ≤ R.locals)
    (hws : ∀ w ∈ ws, ∀ a' U, s.WarmedH U.vm → w.before a' U = true) (hcode : Cond.code y bytes maxL ret ∈ ws) (hinit : ∀ a' U, s.WarmedH U.vm → (Cond.initialized y.cls).before a' U = true) :
    vx_Back l R p e below s sargs y len W9 (PreOf R mc ms Pc) (PostOf Qc mc ms free) (vx_Post XC mc ms free) := by
  intro m meth c A g ig mk a X hg hsize hdg hW hn hp
  have h1 : (headSpec ws rm).pre.before a A.U = true := atoms_intro fun w hw => hws w hw _ _ X.warmed
  have h2 : (Cond.code y bytes maxL ret).before a A.U = true := hws _ hcode _ _ X.warmed
  have h3 : (Cond.initialized y.cls).before a A.U = true := hinit _ _ X.warmed
  have h4 : A.cells + (headSpec ws rm).room.cells ≤ R.cells := by rw [show (headSpec ws rm).room.cells = mc from hrc]; exact hp.1
  have h5 : A.slots + (headSpec ws rm).room.slots ≤ R.slots := by rw [show (headSpec ws rm).room.slots = ms from hrs]; exact hp.2.1
  have hPc : Pc a (A.U.calling g mk a) := hblind _ _ _ _ hp.2.2
  obtain ⟨U, Ls, c0, s0⟩ := A
  dsimp only [Pt.U, Pt.locs, Pt.cells, Pt.slots] at h1 h2 h3 h4 h5 X hn hPc ⊢
  obtain ⟨methY, cY, hmY, hcY, -, hlY, -, -, -, -⟩ := Cond.code_spec hn h2
  obtain ⟨kY, hkY, -⟩ := className_of_methodNamed hn
  have hinitY : kY.init = .initialized := Cond.initialized_spec (findClass_of_methodNamed hn) hkY h3
  have h : At U g.method c below := by rw [hg]; exact X.here
  have hlocals9 : W9 + (maxL + 11) + (headSpec ws rm).room.locals ≤ R.locals := hlocals
  have happ : (headSpec ws rm).appliesLoose y e.platform (U.calling g mk a) = true :=
    Spec.appliesLoose_calling (g := g) h hdg hn hkY hinitY
      (X.room_calling (g := g) (R' := (headSpec ws rm).room) hsize hmY hcY hframes (by rw [hlY]; omega) h4 h5) h1
  obtain ⟨mid, hmid⟩ := h.above
  have hfr : (U.setTop g).frames = (.java g :: mid) ++ below := by rw [State.frames_setTop' g h.top, hmid]; rfl
  obtain ⟨o, s₂, hsteps, -, hend, hq⟩ := Steps.callFree hM p X.admits X.cas X.clock (acts := []) hfr happ hPc trivial
  have hq' : vx_Q Qc XC mc ms free a (U.calling g mk a) o s₂ := hq
  rw [State.frames_setTop' g h.top] at hend
  obtain ⟨g₀, hg0⟩ := Option.isSome_iff_exists.mp h.top
  obtain ⟨r, hr⟩ := State.topJava?_eq_some.mp hg0
  have hr' : (({ U with heap := s₂.heap, slotsUsed := s₂.slotsUsed } : State).setVm s₂.vm).frames = .java g₀ :: r := hr
  rcases hq' with ⟨hqc, L, hfe, hL⟩ | ⟨q, rfl, E, ce, L, hx, hce, hcv, hcl, hW₂, hsm, hL⟩
  · obtain ⟨⟨v, rfl⟩, hW₂, e2, q2, q3, q4, q5, q6⟩ := id hfe
    have e3 : s₂ = ({ (U.calling g mk a).setFrames s₂.frames with heap := s₂.heap, slotsUsed := s₂.slotsUsed } : State).setVm s₂.vm := by
      have : s₂ = ({ s₂ with vm := (U.calling g mk a).vm } : State).setVm s₂.vm := rfl
      rw [e2] at this
      exact this
    obtain ⟨c₂, i₂, len₂, hc₂, hd₂, hf₂⟩ := hend
    have hW' : U.WarmedH s₂.vm := hW₂
    have hcc : c₂ = c := by
      have h1 : s₂.code? g.method = U.code? g.method := by
        rw [State.code?_eq, State.code?_eq, hW'.alike.method?]
      exact Option.some.inj (hc₂.symm.trans (h1.trans h.code))
    subst hcc
    have hlen : len₂ = len := by rw [hdg] at hd₂; cases hd₂; rfl
    subst hlen
    have hs₂ : s₂ = (({ U with heap := s₂.heap, slotsUsed := s₂.slotsUsed } : State).setVm s₂.vm).setTop { g with pc := g.pc + len₂, stack := v.toList ++ g.stack } := by
      refine e3.trans ?_
      rw [hf₂, State.calling_eq h.top, State.setFrames_setFrames, State.setTop_of_frames _ hr', hr]
      rfl
    have hsame : U.sameButNew ({ U with heap := s₂.heap, slotsUsed := s₂.slotsUsed } : State) L mc ms := by
      refine ⟨?_, q2, q3, q4, q5, q6⟩
      obtain ⟨t, ht, -⟩ := State.frames_cons hr
      show ({ U with heap := s₂.heap, slotsUsed := s₂.slotsUsed } : State) = { U.setFrames U.frames with heap := s₂.heap, slotsUsed := s₂.slotsUsed }
      rw [State.setFrames_self ht]
    subst hg
    refine Or.inl ⟨v, ⟨(({ U with heap := s₂.heap, slotsUsed := s₂.slotsUsed } : State).setVm s₂.vm), Ls ++ L, c0 + mc, s0 + ms⟩,
      ⟨X.admits, X.cas, X.clock, X.frames, X.room, X.hears, X.method, X.code, (X.here.setHeapUsed s₂.heap s₂.slotsUsed).setVm hW'.alike, X.tail, State.WarmedH.trans X.warmed hW', X.limits, X.bytes, X.same.trans (hsame.setVm s.vm)⟩,
      ⟨g, mk, s₂, L, rfl, rfl, hqc, rfl, hL, rfl, rfl⟩, ?_⟩
    show Steps p.tables e below _ ((({ U with heap := s₂.heap, slotsUsed := s₂.slotsUsed } : State).setVm s₂.vm).setTop { g with pc := g.pc + len₂, stack := v.toList ++ g.stack })
    rw [← hs₂]
    exact hsteps
  · obtain ⟨e2, q2, q3, q4, q5, q6⟩ := id hsm
    have e3 : s₂ = ({ (U.calling g mk a).setFrames s₂.frames with heap := s₂.heap, slotsUsed := s₂.slotsUsed } : State).setVm s₂.vm := by
      have : s₂ = ({ s₂ with vm := (U.calling g mk a).vm } : State).setVm s₂.vm := rfl
      rw [e2] at this
      exact this
    have hf₂ : s₂.frames = .throwing q :: .java g :: U.frames.tail := hend
    have hW' : U.WarmedH s₂.vm := hW₂
    have hs₂ : s₂ = ((({ U with heap := s₂.heap, slotsUsed := s₂.slotsUsed } : State).setVm s₂.vm).setTop g).pushFrame (.throwing q) := by
      refine e3.trans ?_
      rw [hf₂, State.calling_eq h.top, State.setFrames_setFrames, State.pushFrame, State.frames_setTop _ hr', State.setTop_of_frames _ hr', State.setFrames_setFrames, hr]
      rfl
    have hsame : U.sameButNew ({ U with heap := s₂.heap, slotsUsed := s₂.slotsUsed } : State) L mc ms := by
      refine ⟨?_, q2, q3, q4, q5, q6⟩
      obtain ⟨t, ht, -⟩ := State.frames_cons hr
      show ({ U with heap := s₂.heap, slotsUsed := s₂.slotsUsed } : State) = { U.setFrames U.frames with heap := s₂.heap, slotsUsed := s₂.slotsUsed }
      rw [State.setFrames_self ht]
    subst hg
    refine Or.inr ⟨q, ⟨(({ U with heap := s₂.heap, slotsUsed := s₂.slotsUsed } : State).setVm s₂.vm), Ls ++ L, c0 + mc, s0 + ms⟩,
      ⟨X.admits, X.cas, X.clock, X.frames, X.room, X.hears, X.method, X.code, (X.here.setHeapUsed s₂.heap s₂.slotsUsed).setVm hW'.alike, X.tail, State.WarmedH.trans X.warmed hW', X.limits, X.bytes, X.same.trans (hsame.setVm s.vm)⟩,
      ⟨g, mk, s₂, L, E, ce, rfl, rfl, hx, hce, hcv, hcl, rfl, hL, rfl, rfl⟩, ?_⟩
    show Steps p.tables e below _ (((({ U with heap := s₂.heap, slotsUsed := s₂.slotsUsed } : State).setVm s₂.vm).setTop g).pushFrame (.throwing q))
    rw [← hs₂]
    exact hsteps
end Payer
section Calls
variable {p : Program} {l : Launch} {e : Env} {R : Room} {s : State} {m : MethodId} {args : Array Value} {below : List Frame} {meth : Method} {c : Code} {T : State} {locs : List Loc} {cells slots : Nat}
theorem vx_callV (X : Stand p l e R s m args below meth c T locs cells slots) (hexec : p.tables.exec = Jvm.exec) {own C : String} {index : Nat} {y : MethodName} {bytes : ByteArray} {maxL : Nat} {ret : Option FieldType}
    (hown : s.vm.findClass own = some m.cls) (hlink : (Cond.methodLink own index y).before args s = true) (hinst : (Cond.instanceMethod y).before args s = true) (hsel : (Cond.selects C y y).before args s = true)
    (hcode : (Cond.code y bytes maxL ret).before args s = true) (hy : y.cls ≠ "java/lang/invoke/MethodHandle" ∧ y.cls ≠ "java/lang/invoke/VarHandle")
    {W9 : Nat} {Pre : Pt → Array Value → Prop} {Post : Pt → Array Value → Option Value → Pt → Prop} {PostX : Pt → Array Value → Addr → Pt → Prop} (hK : vx_Back l R p e below s args y 3 W9 Pre Post PostX)
    {b : Addr} {cellB : Cell} (hcell : T.heap[b]? = some cellB) (hobj : cellB.vm.isStatics = false) (hcls : s.vm.findClass C = some cellB.cls)
    {g : JFrame} (hg : g.method = m) (hsize : g.locals.size = c.maxLocals) {argsL rest : List Value} (hlen : ∀ sig, parseMethodDescriptor y.desc = some sig → argsL.length = sig.parameters.length)
    (hstack : g.stack = argsL.reverse ++ .ref b :: rest) (hW : 2 * g.monitorRoom + (rest.map fun v => v.category).sum ≤ W9) (hdg : decode c.code g.pc = .ok (.invokevirtual index, 3))
    (hpre : ∀ vm₁, s.WarmedH vm₁ → Pre ⟨T.setVm vm₁, locs, cells, slots⟩ (Value.ref b :: argsL).toArray) :
    (∃ (v : Option Value) (vm₁ : Vm) (B : Pt), s.WarmedH vm₁ ∧ Stand p l e R s m args below meth c B.U B.locs B.cells B.slots ∧ Post ⟨T.setVm vm₁, locs, cells, slots⟩ (Value.ref b :: argsL).toArray v B ∧
      ∀ target, Steps p.tables e below (B.U.setTop { g with pc := g.pc + 3, stack := v.toList ++ rest }) target → Steps p.tables e below (T.setTop g) target) ∨
    (∃ (q : Addr) (vm₁ : Vm) (B : Pt), s.WarmedH vm₁ ∧ Stand p l e R s m args below meth c B.U B.locs B.cells B.slots ∧ PostX ⟨T.setVm vm₁, locs, cells, slots⟩ (Value.ref b :: argsL).toArray q B ∧
      Steps p.tables e below (T.setTop g) ((B.U.setTop { g with stack := rest }).pushFrame (.throwing q))) := by
  obtain ⟨mk, methM, hnamed, hmethM, hstM, habM⟩ := Cond.instanceMethod_spec hinst
  obtain ⟨methM', cM, hmethM', -, -, -, -, -, -, hsigM⟩ := Cond.code_spec hnamed hcode
  cases hmethM.symm.trans hmethM'
  obtain ⟨c2, r2, m2, q1, q2, q3, q4, kP, hkP, hkPi⟩ := Cond.selects_spec hsel
  cases hcls.symm.trans q1
  cases (State.methodFound?_of_named hnamed hy).symm.trans q2
  cases hnamed.symm.trans q3
  have hselP : selectMethod e.platform s.vm cellB.cls mk = .method mk := by rw [Launch.admits_selectMethod X.admits]; exact q4
  obtain ⟨vm₁, X₁, hstep₁⟩ := X.invokevirtual hexec hown hlink hnamed hmethM hstM hkP hkPi hy (a := b) (cell := cellB) hcell
    (fun z h => by rw [h] at hobj; cases hobj) hselP hmethM habM hkP hkPi (g := g) hg (argsL := argsL) (rest := rest) (hlen _ hsigM) hstack hdg
  rcases hK m meth c ⟨T.setVm vm₁, locs, cells, slots⟩ { g with stack := rest } (.invokevirtual index) mk (Value.ref b :: argsL).toArray X₁ hg hsize hdg hW (X₁.named hnamed) (hpre vm₁ X₁.warmed) with ⟨v, B, X', hpost, hsteps⟩ | ⟨q, B, X', hpost, hsteps⟩
  · exact Or.inl ⟨v, vm₁, B, X₁.warmed, X', hpost, fun target h => hstep₁ _ fun acts => by rw [doInvoke_state]; exact hsteps.trans h⟩
  · exact Or.inr ⟨q, vm₁, B, X₁.warmed, X', hpost, hstep₁ _ fun acts => by rw [doInvoke_state]; exact hsteps⟩
theorem vx_callS (X : Stand p l e R s m args below meth c T locs cells slots) (hexec : p.tables.exec = Jvm.exec) {own : String} {index : Nat} {y : MethodName} {bytes : ByteArray} {maxL : Nat} {ret : Option FieldType}
    (hown : s.vm.findClass own = some m.cls) (hlink : (Cond.methodLink own index y).before args s = true) (hstat : (Cond.static y).before args s = true) (hinit : (Cond.initialized y.cls).before args s = true)
    (hcode : (Cond.code y bytes maxL ret).before args s = true) (hy : y.cls ≠ "java/lang/invoke/MethodHandle" ∧ y.cls ≠ "java/lang/invoke/VarHandle")
    {W9 : Nat} {Pre : Pt → Array Value → Prop} {Post : Pt → Array Value → Option Value → Pt → Prop} {PostX : Pt → Array Value → Addr → Pt → Prop} (hK : vx_Back l R p e below s args y 3 W9 Pre Post PostX)
    {g : JFrame} (hg : g.method = m) (hsize : g.locals.size = c.maxLocals) {argsL rest : List Value} (hlen : ∀ sig, parseMethodDescriptor y.desc = some sig → argsL.length = sig.parameters.length)
    (hstack : g.stack = argsL.reverse ++ rest) (hW : 2 * g.monitorRoom + (rest.map fun v => v.category).sum ≤ W9) (hdg : decode c.code g.pc = .ok (.invokestatic index, 3))
    (hpre : ∀ vm₁, s.WarmedH vm₁ → Pre ⟨T.setVm vm₁, locs, cells, slots⟩ argsL.toArray) :
    (∃ (v : Option Value) (vm₁ : Vm) (B : Pt), s.WarmedH vm₁ ∧ Stand p l e R s m args below meth c B.U B.locs B.cells B.slots ∧ Post ⟨T.setVm vm₁, locs, cells, slots⟩ argsL.toArray v B ∧
      ∀ target, Steps p.tables e below (B.U.setTop { g with pc := g.pc + 3, stack := v.toList ++ rest }) target → Steps p.tables e below (T.setTop g) target) ∨
    (∃ (q : Addr) (vm₁ : Vm) (B : Pt), s.WarmedH vm₁ ∧ Stand p l e R s m args below meth c B.U B.locs B.cells B.slots ∧ PostX ⟨T.setVm vm₁, locs, cells, slots⟩ argsL.toArray q B ∧
      Steps p.tables e below (T.setTop g) ((B.U.setTop { g with stack := rest }).pushFrame (.throwing q))) := by
  obtain ⟨mk, hnamed⟩ := Cond.code_named hcode
  obtain ⟨methM, cM, hmethM, -, -, -, -, -, -, hsigM⟩ := Cond.code_spec hnamed hcode
  have hstatic : methM.isStatic = true := Cond.static_spec hnamed hmethM hstat
  obtain ⟨kP, hkP, -⟩ := className_of_methodNamed hnamed
  have hinitP : kP.init = .initialized := Cond.initialized_spec (findClass_of_methodNamed hnamed) hkP hinit
  obtain ⟨vm₁, X₁, hstep₁⟩ := X.invokestatic hexec hown hlink hnamed hmethM hstatic hkP hinitP hy (g := g) hg (argsL := argsL) (rest := rest) (hlen _ hsigM) hstack hdg
  rcases hK m meth c ⟨T.setVm vm₁, locs, cells, slots⟩ { g with stack := rest } (.invokestatic index) mk argsL.toArray X₁ hg hsize hdg hW (X₁.named hnamed) (hpre vm₁ X₁.warmed) with ⟨v, B, X', hpost, hsteps⟩ | ⟨q, B, X', hpost, hsteps⟩
  · exact Or.inl ⟨v, vm₁, B, X₁.warmed, X', hpost, fun target h => hstep₁ _ fun acts => by rw [doInvoke_state]; exact hsteps.trans h⟩
  · exact Or.inr ⟨q, vm₁, B, X₁.warmed, X', hpost, hstep₁ _ fun acts => by rw [doInvoke_state]; exact hsteps⟩
end Calls
theorem vx_cls {s : State} {T : State} {vm₁ : Vm} {E : String} {k : ClassId} (hW : s.WarmedH vm₁) (h : (T.setVm vm₁).vm.findClass E = some k) : s.vm.findClass E = some k := by
  have h1 : vm₁.findClass E = some k := h
  rw [hW.alike.findClass] at h1
  exact h1
/-- the method's frame g, with q thrown over it -/
def vx_W (p : Program) (l : Launch) (e : Env) (R : Room) (s : State) (m : MethodId) (args : Array Value) (below : List Frame) (meth : Method) (c : Code) (H : Heap) (locs : List Loc) (cells slots : Nat) (Q : State → Prop) (g : JFrame) (q : Addr) : Prop :=
  ∀ T : State, T.heap = H → Stand p l e R s m args below meth c T locs cells slots → ∃ t, Steps p.tables e below ((T.setTop g).pushFrame (.throwing q)) t ∧ Q t
def vx_Run (p : Program) (l : Launch) (e : Env) (R : Room) (s : State) (m : MethodId) (args : Array Value) (below : List Frame) (meth : Method) (c : Code) (H : Heap) (locs : List Loc) (cells slots mc ms : Nat) (g : JFrame) (rest : List Value) (Qa : State → Outcome → State → Prop) (XC : String → State → State → Prop) (free : Addr → Prop) : Prop :=
  ∀ T : State, T.heap = H → Stand p l e R s m args below meth c T locs cells slots →
    (∃ (v : Option Value) (st₀ t T' : State) (L : List Loc), st₀.heap = H ∧ Stand p l e R s m args below meth c T' (locs ++ L) (cells + mc) (slots + ms) ∧ (∀ q ∈ L, free q.base) ∧ T'.heap = t.heap ∧ T'.vm = t.vm ∧ Qa st₀ (.returned v) t ∧
      Goes p e below T g T' { g with pc := g.pc + 3, stack := v.toList ++ rest }) ∨
    (∃ (q : Addr) (st₀ t T' : State) (L : List Loc) (E : String) (ce : Cell), st₀.heap = H ∧ Stand p l e R s m args below meth c T' (locs ++ L) (cells + mc) (slots + ms) ∧ (∀ z ∈ L, free z.base) ∧ T'.heap = t.heap ∧ T'.vm = t.vm ∧ XC E st₀ t ∧ t.heap[q]? = some ce ∧ ce.vm = .none ∧ s.vm.findClass E = some ce.cls ∧
      Steps p.tables e below (T.setTop g) ((T'.setTop { g with stack := rest }).pushFrame (.throwing q)))
def vx_X {S : Type} (px : S → Prop) (B : String → S → State → Prop) (A : Nat → Prop) : String → State → State → Prop := fun E st t => ∃ u : S, px u ∧ B E u t ∧ va_F A st t
section Runs
variable {p : Program} {l : Launch} {e : Env} {R : Room} {s : State} {m : MethodId} {args : Array Value} {below : List Frame} {meth : Method} {c : Code} {H : Heap} {locs : List Loc} {cells slots : Nat}
variable {y : MethodName} {bytes cc : ByteArray} {maxL nL mc ms n index : Nat} {ret : Option FieldType} {ws : List Cond} {rm : Room} {Pc : Array Value → State → Prop} {Qc : Array Value → State → Outcome → State → Prop} {XC : String → State → State → Prop} {free : Addr → Prop} {Ts : List Cond} {own C : String} {b : Addr} {As rest : List Value} {g : JFrame}
theorem vx_callBack (cb : CallB R s args own index y bytes maxL ret ws rm mc ms n) (hM : vx_Met l y ws rm Pc Qc XC mc ms free) (hbl : FrameBlind Pc) : vx_Back l R p e below s args y 3 8 (PreOf R mc ms Pc) (PostOf Qc mc ms free) (vx_Post XC mc ms free) := by
  obtain ⟨hrc, hrs, hfr, hlo, hws, hcw, -, hini, -⟩ := cb
  exact vx_back (bytes := bytes) (maxL := maxL) (ret := ret) hM hbl hrc hrs hfr hlo hws hcw (fun a' U hW => word_at hW (Or.inl (by first | rfl | simp [Cond.onTables, Cond.keeps, Cond.steady])) hini)
theorem vx_runV (S : CallFix p m c cc nL s args Ts own) (hM : vx_Met l y ws rm Pc Qc XC mc ms free) (cw : CallW R s args own C index y bytes maxL ret ws rm mc ms n) (hp : PreV s H C b Pc As)
    (hg : g.method = m) (hn : As.length = n) (hsize : g.locals.size = nL) (hstack : g.stack = As.reverse ++ .ref b :: rest) (hW : 2 * g.monitorRoom + (rest.map fun v => v.category).sum ≤ 8) (hdg : decode cc g.pc = .ok (.invokevirtual index, 3)) (hf : cells + mc ≤ R.cells ∧ slots + ms ≤ R.slots) :
    vx_Run p l e R s m args below meth c H locs cells slots mc ms g rest (Qc (Value.ref b :: As).toArray) XC free := by
  have hK : vx_Back l R p e below s args y 3 8 (PreOf R mc ms Pc) (PostOf Qc mc ms free) (vx_Post XC mc ms free) := vx_callBack cw.1 hM hp.1
  obtain ⟨⟨-, -, -, -, -, -, hcode, -, hy, hlen, hl⟩, hin, hse⟩ := cw
  obtain ⟨hx, hb, hml, ho, -⟩ := S
  obtain ⟨-, ⟨cellB, hcB, hoB, hclB⟩, hPc⟩ := hp
  intro T hT X
  rcases vx_callV X hx (C := C) (bytes := bytes) (maxL := maxL) (ret := ret) ho hl hin hse hcode hy hK (by rw [hT]; exact hcB) hoB hclB hg (hsize.trans hml.symm) (argsL := As) (rest := rest) (fun sig h => hn.trans (hlen sig h)) hstack hW (by rw [hb]; exact hdg)
    (fun vm₁ hW₁ => ⟨hf.1, hf.2, hPc (T.setVm vm₁) hT hW₁⟩) with ⟨v, vm₁, ⟨U', l2, c2, s2⟩, hW₁, X', ⟨g', mk, t, L, e1, e2, hq, h1, hL, h2, h3⟩, st⟩ | ⟨q, vm₁, ⟨U', l2, c2, s2⟩, hW₁, X', ⟨g', mk, t, L, E, ce, e1, e2, hq, hce, hcv, hcl, h1, hL, h2, h3⟩, st⟩
  · dsimp only [Pt.U, Pt.locs, Pt.cells, Pt.slots] at X' e1 e2 h1 h2 h3 st
    subst h1; subst h2; subst h3
    exact Or.inl ⟨v, (T.setVm vm₁).calling g' mk (Value.ref b :: As).toArray, t, U', L, hT, X', hL, e1, e2, hq, st⟩
  · dsimp only [Pt.U, Pt.locs, Pt.cells, Pt.slots] at X' e1 e2 h1 h2 h3 st hcl
    subst h1; subst h2; subst h3
    exact Or.inr ⟨q, (T.setVm vm₁).calling g' mk (Value.ref b :: As).toArray, t, U', L, E, ce, hT, X', hL, e1, e2, hq, hce, hcv, vx_cls hW₁ hcl, st⟩
theorem vx_runS (S : CallFix p m c cc nL s args Ts own) (hM : vx_Met l y ws rm Pc Qc XC mc ms free) (cw : CallB R s args own index y bytes maxL ret ws rm mc ms n ∧ (Cond.static y).before args s = true) (hp : PreS s H Pc As)
    (hg : g.method = m) (hn : As.length = n) (hsize : g.locals.size = nL) (hstack : g.stack = As.reverse ++ rest) (hW : 2 * g.monitorRoom + (rest.map fun v => v.category).sum ≤ 8) (hdg : decode cc g.pc = .ok (.invokestatic index, 3)) (hf : cells + mc ≤ R.cells ∧ slots + ms ≤ R.slots) :
    vx_Run p l e R s m args below meth c H locs cells slots mc ms g rest (Qc As.toArray) XC free := by
  have hK : vx_Back l R p e below s args y 3 8 (PreOf R mc ms Pc) (PostOf Qc mc ms free) (vx_Post XC mc ms free) := vx_callBack cw.1 hM hp.1
  obtain ⟨⟨-, -, -, -, -, -, hcode, hini, hy, hlen, hl⟩, hstt⟩ := cw
  obtain ⟨hx, hb, hml, ho, -⟩ := S
  intro T hT X
  rcases vx_callS X hx (bytes := bytes) (maxL := maxL) (ret := ret) ho hl hstt hini hcode hy hK hg (hsize.trans hml.symm) (argsL := As) (rest := rest) (fun sig h => hn.trans (hlen sig h)) hstack hW (by rw [hb]; exact hdg)
    (fun vm₁ hW₁ => ⟨hf.1, hf.2, hp.2 (T.setVm vm₁) hT hW₁⟩) with ⟨v, vm₁, ⟨U', l2, c2, s2⟩, hW₁, X', ⟨g', mk, t, L, e1, e2, hq, h1, hL, h2, h3⟩, st⟩ | ⟨q, vm₁, ⟨U', l2, c2, s2⟩, hW₁, X', ⟨g', mk, t, L, E, ce, e1, e2, hq, hce, hcv, hcl, h1, hL, h2, h3⟩, st⟩
  · dsimp only [Pt.U, Pt.locs, Pt.cells, Pt.slots] at X' e1 e2 h1 h2 h3 st
    subst h1; subst h2; subst h3
    exact Or.inl ⟨v, (T.setVm vm₁).calling g' mk As.toArray, t, U', L, hT, X', hL, e1, e2, hq, st⟩
  · dsimp only [Pt.U, Pt.locs, Pt.cells, Pt.slots] at X' e1 e2 h1 h2 h3 st hcl
    subst h1; subst h2; subst h3
    exact Or.inr ⟨q, (T.setVm vm₁).calling g' mk As.toArray, t, U', L, E, ce, hT, X', hL, e1, e2, hq, hce, hcv, vx_cls hW₁ hcl, st⟩
end Runs
section Rows
variable {p : Program} {l : Launch} {e : Env} {R : Room} {s : State} {m : MethodId} {args : Array Value} {below : List Frame} {meth : Method} {c : Code} {H : Heap} {locs : List Loc} {cells slots : Nat} {Q : State → Prop}
variable {mc ms : Nat} {free : Addr → Prop} {A0 A1 : Nat → Prop} {H0 : Heap} {a : Array Value} {pc : Nat} {ls : Array Slot} {st0 rest : List Value}
theorem vx_keep {st₀ t T' : State} {L : List Loc} (h0 : st₀.heap = H) (e1 : T'.heap = t.heap) (hS : va_S A0 H0 H locs) (hA : ∀ q, q < H.size → A1 q → A0 q) (hf : ∀ q, free q → A0 q) (hL : ∀ q ∈ L, free q.base) (hF : va_F A1 st₀ t) :
    H.size ≤ T'.heap.size ∧ (∀ q : Nat, q < H.size → ¬ A1 q → T'.heap[q]? = H[q]?) ∧ va_S A0 H0 T'.heap (locs ++ L) := by
  obtain ⟨hz, hk⟩ := hF
  rw [h0] at hz hk
  exact ⟨by rw [e1]; exact hz, fun q h1 h2 => by rw [e1]; exact hk q h1 h2,
    ⟨Nat.le_trans hS.1 (by rw [e1]; exact hz), fun q h1 h2 => by rw [e1, hk q (Nat.lt_of_lt_of_le h1 hS.1) (fun z => h2 (hA q (Nat.lt_of_lt_of_le h1 hS.1) z))]; exact hS.2.1 q h1 h2, fun q hq => by
      rcases List.mem_append.mp hq with h | h
      · exact hS.2.2 q h
      · exact hf _ (hL q h)⟩⟩
theorem vx_calli {S SX : Type} {post : Int32 → S → Prop} {px : SX → Prop} {B : S → State → Prop} {BX : String → SX → State → Prop} {AX : Nat → Prop} (hr : vx_Run p l e R s m args below meth c H locs cells slots mc ms (F0 m pc ls st0) rest (va_Qi post B A1 a) (vx_X px BX AX) free) (hS : va_S A0 H0 H locs) (hA : ∀ q, q < H.size → A1 q → A0 q) (hf : ∀ q, free q → A0 q) (hAX : ∀ q, q < H.size → AX q → A0 q)
    (kx : ∀ (E : String) (ce : Cell) (q9 : Addr) (u : SX) (t : State) (H1 : Heap) (locs1 : List Loc), t.heap = H1 → s.vm.Alike t.vm → px u → BX E u t → H.size ≤ H1.size → (∀ q : Nat, q < H.size → ¬ AX q → H1[q]? = H[q]?) → va_S A0 H0 H1 locs1 → H1[q9]? = some ce → ce.vm = .none → s.vm.findClass E = some ce.cls → vx_W p l e R s m args below meth c H1 locs1 (cells + mc) (slots + ms) Q (F0 m pc ls rest) q9)
    (kk : ∀ (r : Int32) (u : S) (t : State) (H1 : Heap) (locs1 : List Loc), t.heap = H1 → s.vm.Alike t.vm → post r u → B u t → H.size ≤ H1.size → (∀ q : Nat, q < H.size → ¬ A1 q → H1[q]? = H[q]?) → va_S A0 H0 H1 locs1 → W p l e R s m args below meth c H1 locs1 (cells + mc) (slots + ms) Q (F0 m (pc + 3) ls (.int r :: rest))) : W p l e R s m args below meth c H locs cells slots Q (F0 m pc ls st0) := by
  intro T hT X
  rcases hr T hT X with ⟨v, st₀, t, T', L, h0, X', hL, e1, e2, ⟨⟨r, u, hv, hp, hb⟩, hF⟩, st⟩ | ⟨q, st₀, t, T', L, E, ce, h0, X', hL, e1, e2, ⟨u, hp, hb, hF⟩, hce, hcv, hcl, st⟩
  · cases hv
    obtain ⟨k1, k2, k3⟩ := vx_keep h0 e1 hS hA hf hL hF
    obtain ⟨t2, a1, b1⟩ := kk r u t T'.heap (locs ++ L) e1.symm (by rw [← e2]; exact X'.warmed.alike) hp hb k1 k2 k3 T' rfl X'
    exact ⟨t2, st t2 a1, b1⟩
  · obtain ⟨k1, k2, k3⟩ := vx_keep h0 e1 hS hAX hf hL hF
    obtain ⟨t2, a1, b1⟩ := kx E ce q u t T'.heap (locs ++ L) e1.symm (by rw [← e2]; exact X'.warmed.alike) hp hb k1 k2 k3 (by rw [e1]; exact hce) hcv hcl T' rfl X'
    exact ⟨t2, st.trans a1, b1⟩
theorem vx_calll {S SX : Type} {post : Int64 → S → Prop} {px : SX → Prop} {B : S → State → Prop} {BX : String → SX → State → Prop} {AX : Nat → Prop} (hr : vx_Run p l e R s m args below meth c H locs cells slots mc ms (F0 m pc ls st0) rest (va_Ql post B A1 a) (vx_X px BX AX) free) (hS : va_S A0 H0 H locs) (hA : ∀ q, q < H.size → A1 q → A0 q) (hf : ∀ q, free q → A0 q) (hAX : ∀ q, q < H.size → AX q → A0 q)
    (kx : ∀ (E : String) (ce : Cell) (q9 : Addr) (u : SX) (t : State) (H1 : Heap) (locs1 : List Loc), t.heap = H1 → s.vm.Alike t.vm → px u → BX E u t → H.size ≤ H1.size → (∀ q : Nat, q < H.size → ¬ AX q → H1[q]? = H[q]?) → va_S A0 H0 H1 locs1 → H1[q9]? = some ce → ce.vm = .none → s.vm.findClass E = some ce.cls → vx_W p l e R s m args below meth c H1 locs1 (cells + mc) (slots + ms) Q (F0 m pc ls rest) q9)
    (kk : ∀ (r : Int64) (u : S) (t : State) (H1 : Heap) (locs1 : List Loc), t.heap = H1 → s.vm.Alike t.vm → post r u → B u t → H.size ≤ H1.size → (∀ q : Nat, q < H.size → ¬ A1 q → H1[q]? = H[q]?) → va_S A0 H0 H1 locs1 → W p l e R s m args below meth c H1 locs1 (cells + mc) (slots + ms) Q (F0 m (pc + 3) ls (.long r :: rest))) : W p l e R s m args below meth c H locs cells slots Q (F0 m pc ls st0) := by
  intro T hT X
  rcases hr T hT X with ⟨v, st₀, t, T', L, h0, X', hL, e1, e2, ⟨⟨r, u, hv, hp, hb⟩, hF⟩, st⟩ | ⟨q, st₀, t, T', L, E, ce, h0, X', hL, e1, e2, ⟨u, hp, hb, hF⟩, hce, hcv, hcl, st⟩
  · cases hv
    obtain ⟨k1, k2, k3⟩ := vx_keep h0 e1 hS hA hf hL hF
    obtain ⟨t2, a1, b1⟩ := kk r u t T'.heap (locs ++ L) e1.symm (by rw [← e2]; exact X'.warmed.alike) hp hb k1 k2 k3 T' rfl X'
    exact ⟨t2, st t2 a1, b1⟩
  · obtain ⟨k1, k2, k3⟩ := vx_keep h0 e1 hS hAX hf hL hF
    obtain ⟨t2, a1, b1⟩ := kx E ce q u t T'.heap (locs ++ L) e1.symm (by rw [← e2]; exact X'.warmed.alike) hp hb k1 k2 k3 (by rw [e1]; exact hce) hcv hcl T' rfl X'
    exact ⟨t2, st.trans a1, b1⟩
theorem vx_callf {S SX : Type} {post : UInt32 → S → Prop} {px : SX → Prop} {B : S → State → Prop} {BX : String → SX → State → Prop} {AX : Nat → Prop} (hr : vx_Run p l e R s m args below meth c H locs cells slots mc ms (F0 m pc ls st0) rest (va_Qf post B A1 a) (vx_X px BX AX) free) (hS : va_S A0 H0 H locs) (hA : ∀ q, q < H.size → A1 q → A0 q) (hf : ∀ q, free q → A0 q) (hAX : ∀ q, q < H.size → AX q → A0 q)
    (kx : ∀ (E : String) (ce : Cell) (q9 : Addr) (u : SX) (t : State) (H1 : Heap) (locs1 : List Loc), t.heap = H1 → s.vm.Alike t.vm → px u → BX E u t → H.size ≤ H1.size → (∀ q : Nat, q < H.size → ¬ AX q → H1[q]? = H[q]?) → va_S A0 H0 H1 locs1 → H1[q9]? = some ce → ce.vm = .none → s.vm.findClass E = some ce.cls → vx_W p l e R s m args below meth c H1 locs1 (cells + mc) (slots + ms) Q (F0 m pc ls rest) q9)
    (kk : ∀ (r : UInt32) (u : S) (t : State) (H1 : Heap) (locs1 : List Loc), t.heap = H1 → s.vm.Alike t.vm → post r u → B u t → H.size ≤ H1.size → (∀ q : Nat, q < H.size → ¬ A1 q → H1[q]? = H[q]?) → va_S A0 H0 H1 locs1 → W p l e R s m args below meth c H1 locs1 (cells + mc) (slots + ms) Q (F0 m (pc + 3) ls (.float r :: rest))) : W p l e R s m args below meth c H locs cells slots Q (F0 m pc ls st0) := by
  intro T hT X
  rcases hr T hT X with ⟨v, st₀, t, T', L, h0, X', hL, e1, e2, ⟨⟨r, u, hv, hp, hb⟩, hF⟩, st⟩ | ⟨q, st₀, t, T', L, E, ce, h0, X', hL, e1, e2, ⟨u, hp, hb, hF⟩, hce, hcv, hcl, st⟩
  · cases hv
    obtain ⟨k1, k2, k3⟩ := vx_keep h0 e1 hS hA hf hL hF
    obtain ⟨t2, a1, b1⟩ := kk r u t T'.heap (locs ++ L) e1.symm (by rw [← e2]; exact X'.warmed.alike) hp hb k1 k2 k3 T' rfl X'
    exact ⟨t2, st t2 a1, b1⟩
  · obtain ⟨k1, k2, k3⟩ := vx_keep h0 e1 hS hAX hf hL hF
    obtain ⟨t2, a1, b1⟩ := kx E ce q u t T'.heap (locs ++ L) e1.symm (by rw [← e2]; exact X'.warmed.alike) hp hb k1 k2 k3 (by rw [e1]; exact hce) hcv hcl T' rfl X'
    exact ⟨t2, st.trans a1, b1⟩
theorem vx_calld {S SX : Type} {post : UInt64 → S → Prop} {px : SX → Prop} {B : S → State → Prop} {BX : String → SX → State → Prop} {AX : Nat → Prop} (hr : vx_Run p l e R s m args below meth c H locs cells slots mc ms (F0 m pc ls st0) rest (va_Qd post B A1 a) (vx_X px BX AX) free) (hS : va_S A0 H0 H locs) (hA : ∀ q, q < H.size → A1 q → A0 q) (hf : ∀ q, free q → A0 q) (hAX : ∀ q, q < H.size → AX q → A0 q)
    (kx : ∀ (E : String) (ce : Cell) (q9 : Addr) (u : SX) (t : State) (H1 : Heap) (locs1 : List Loc), t.heap = H1 → s.vm.Alike t.vm → px u → BX E u t → H.size ≤ H1.size → (∀ q : Nat, q < H.size → ¬ AX q → H1[q]? = H[q]?) → va_S A0 H0 H1 locs1 → H1[q9]? = some ce → ce.vm = .none → s.vm.findClass E = some ce.cls → vx_W p l e R s m args below meth c H1 locs1 (cells + mc) (slots + ms) Q (F0 m pc ls rest) q9)
    (kk : ∀ (r : UInt64) (u : S) (t : State) (H1 : Heap) (locs1 : List Loc), t.heap = H1 → s.vm.Alike t.vm → post r u → B u t → H.size ≤ H1.size → (∀ q : Nat, q < H.size → ¬ A1 q → H1[q]? = H[q]?) → va_S A0 H0 H1 locs1 → W p l e R s m args below meth c H1 locs1 (cells + mc) (slots + ms) Q (F0 m (pc + 3) ls (.double r :: rest))) : W p l e R s m args below meth c H locs cells slots Q (F0 m pc ls st0) := by
  intro T hT X
  rcases hr T hT X with ⟨v, st₀, t, T', L, h0, X', hL, e1, e2, ⟨⟨r, u, hv, hp, hb⟩, hF⟩, st⟩ | ⟨q, st₀, t, T', L, E, ce, h0, X', hL, e1, e2, ⟨u, hp, hb, hF⟩, hce, hcv, hcl, st⟩
  · cases hv
    obtain ⟨k1, k2, k3⟩ := vx_keep h0 e1 hS hA hf hL hF
    obtain ⟨t2, a1, b1⟩ := kk r u t T'.heap (locs ++ L) e1.symm (by rw [← e2]; exact X'.warmed.alike) hp hb k1 k2 k3 T' rfl X'
    exact ⟨t2, st t2 a1, b1⟩
  · obtain ⟨k1, k2, k3⟩ := vx_keep h0 e1 hS hAX hf hL hF
    obtain ⟨t2, a1, b1⟩ := kx E ce q u t T'.heap (locs ++ L) e1.symm (by rw [← e2]; exact X'.warmed.alike) hp hb k1 k2 k3 (by rw [e1]; exact hce) hcv hcl T' rfl X'
    exact ⟨t2, st.trans a1, b1⟩
theorem vx_callv {S SX : Type} {post : S → Prop} {px : SX → Prop} {B : S → State → Prop} {BX : String → SX → State → Prop} {AX : Nat → Prop} (hr : vx_Run p l e R s m args below meth c H locs cells slots mc ms (F0 m pc ls st0) rest (va_Qv post B A1 a) (vx_X px BX AX) free) (hS : va_S A0 H0 H locs) (hA : ∀ q, q < H.size → A1 q → A0 q) (hf : ∀ q, free q → A0 q) (hAX : ∀ q, q < H.size → AX q → A0 q)
    (kx : ∀ (E : String) (ce : Cell) (q9 : Addr) (u : SX) (t : State) (H1 : Heap) (locs1 : List Loc), t.heap = H1 → s.vm.Alike t.vm → px u → BX E u t → H.size ≤ H1.size → (∀ q : Nat, q < H.size → ¬ AX q → H1[q]? = H[q]?) → va_S A0 H0 H1 locs1 → H1[q9]? = some ce → ce.vm = .none → s.vm.findClass E = some ce.cls → vx_W p l e R s m args below meth c H1 locs1 (cells + mc) (slots + ms) Q (F0 m pc ls rest) q9)
    (kk : ∀ (u : S) (t : State) (H1 : Heap) (locs1 : List Loc), t.heap = H1 → s.vm.Alike t.vm → post u → B u t → H.size ≤ H1.size → (∀ q : Nat, q < H.size → ¬ A1 q → H1[q]? = H[q]?) → va_S A0 H0 H1 locs1 → W p l e R s m args below meth c H1 locs1 (cells + mc) (slots + ms) Q (F0 m (pc + 3) ls (rest))) : W p l e R s m args below meth c H locs cells slots Q (F0 m pc ls st0) := by
  intro T hT X
  rcases hr T hT X with ⟨v, st₀, t, T', L, h0, X', hL, e1, e2, ⟨⟨u, hv, hp, hb⟩, hF⟩, st⟩ | ⟨q, st₀, t, T', L, E, ce, h0, X', hL, e1, e2, ⟨u, hp, hb, hF⟩, hce, hcv, hcl, st⟩
  · cases hv
    obtain ⟨k1, k2, k3⟩ := vx_keep h0 e1 hS hA hf hL hF
    obtain ⟨t2, a1, b1⟩ := kk u t T'.heap (locs ++ L) e1.symm (by rw [← e2]; exact X'.warmed.alike) hp hb k1 k2 k3 T' rfl X'
    exact ⟨t2, st t2 a1, b1⟩
  · obtain ⟨k1, k2, k3⟩ := vx_keep h0 e1 hS hAX hf hL hF
    obtain ⟨t2, a1, b1⟩ := kx E ce q u t T'.heap (locs ++ L) e1.symm (by rw [← e2]; exact X'.warmed.alike) hp hb k1 k2 k3 (by rw [e1]; exact hce) hcv hcl T' rfl X'
    exact ⟨t2, st.trans a1, b1⟩
/-- caught by the row x of this method's table; the rows ahead don't take it -/
theorem vx_catch {own name : String} {E : String} {ce : Cell} {q : Addr} (hown : s.vm.findClass own = some m.cls) (pre : List ExceptionTableEntry) (x : ExceptionTableEntry) (suf : List ExceptionTableEntry) (hsplit : c.exceptionTable.toList = pre ++ x :: suf)
    (hpass : ∀ z ∈ pre, covers z pc = false ∨ (z.catchType ≠ 0 ∧ ∃ nm : String, (Cond.classLink own z.catchType nm).before args s = true ∧ va_Nc E nm s)) (hx : covers x pc = true) (h0 : x.catchType ≠ 0)
    (hlink : (Cond.classLink own x.catchType name).before args s = true) (hcast : (Cond.castable E name).before args s = true) (hcell : H[q]? = some ce) (hv : ce.vm = .none) (hcl : s.vm.findClass E = some ce.cls)
    (kk : W p l e R s m args below meth c H locs cells slots Q (F0 m x.handlerPc ls [.ref q])) : vx_W p l e R s m args below meth c H locs cells slots Q (F0 m pc ls rest) q := by
  intro T hT X
  have hpl : e.platform.magicAccessors = ({} : Platform).magicAccessors := by rw [X.admits.platform]
  obtain ⟨c3, c4, hc3, hc4, hasg⟩ := Cond.castable_spec hcast
  cases Option.some.inj (hc3.symm.trans hcl)
  obtain ⟨c5, hc5, hcl5⟩ := Cond.classLink_spec hown hlink e.platform hpl
  cases Option.some.inj (hc4.symm.trans hc5)
  obtain ⟨vm', X', st⟩ := X.thenCaughtThrough q (g := F0 m pc ls rest) rfl (Steps.refl _) (by rw [hT]; exact hcell) (by rw [hv]; rfl) (by obtain ⟨k9, h9, -⟩ := Vm.findClass_spec hcl; exact ⟨k9, h9⟩) pre x suf hsplit
    (fun z hz => by
      rcases hpass z hz with h | ⟨hz0, nm, hl1, hn1⟩
      · exact Or.inl h
      · obtain ⟨c6, hc6, hcl6⟩ := Cond.classLink_spec hown hl1 e.platform hpl
        obtain ⟨a8, b8, h1, h2, h3⟩ := hn1
        cases Option.some.inj (h1.symm.trans hcl)
        cases Option.some.inj (h2.symm.trans hc6)
        exact Or.inr ⟨hz0, _, hcl6, h3⟩) hx (Or.inr ⟨h0, c4, hcl5, hasg⟩)
  obtain ⟨t, a1, b1⟩ := kk (T.setVm vm') hT X'
  exact ⟨t, st.trans a1, b1⟩
end Rows
section Ends
variable {p : Program} {l : Launch} {e : Env} {R : Room} {s : State} {m : MethodId} {args : Array Value} {below : List Frame} {meth : Method} {c : Code} {H : Heap} {locs : List Loc} {cells slots : Nat} {Q : State → Prop}
variable {mc ms : Nat} {free : Addr → Prop} {A0 A1 : Nat → Prop} {H0 : Heap} {a : Array Value} {ls : Array Slot} {st0 rest : List Value}
variable {Qc : Array Value → State → Outcome → State → Prop} {XC : String → State → State → Prop}
/-- what a body that may throw owes at its end -/
def vx_MQ (below : List Frame) (Qc : Array Value → State → Outcome → State → Prop) (XC : String → State → State → Prop) (a : Array Value) (s : State) (mc ms : Nat) (free : Addr → Prop) : State → Prop := fun t =>
  ∃ o, t.status = .running ∧ Ended t below o ∧ vx_Q Qc XC mc ms free a s o t
theorem vx_ret {g : JFrame} {mc ms : Nat} (k : W p l e R s m args below meth c H locs cells slots (MQ below Qc args s mc ms free) g) : W p l e R s m args below meth c H locs cells slots (vx_MQ below Qc XC args s mc ms free) g := by
  intro T hT X
  obtain ⟨t, a1, o, b1, b2, b3, b4⟩ := k T hT X
  exact ⟨t, a1, o, b1, b2, Or.inl ⟨b3, b4⟩⟩
/-- not caught here: it goes on to the caller -/
theorem vx_widen {g : JFrame} {q : Addr} {k n : Nat} (h1 : cells ≤ k) (h2 : slots ≤ n) (kk : vx_W p l e R s m args below meth c H locs k n Q g q) : vx_W p l e R s m args below meth c H locs cells slots Q g q := fun T hT X => kk T hT (stand_widen X h1 h2)
theorem vx_out {pc : Nat} {E : String} {ce : Cell} {q : Addr} {mc ms : Nat} (hout : ∀ x ∈ c.exceptionTable.toList, covers x pc = false) (hlocks : meth.locks = false) (hcell : H[q]? = some ce) (hv : ce.vm = .none) (hcl : s.vm.findClass E = some ce.cls)
    (hx : ∀ t : State, t.heap = H → s.vm.Alike t.vm → XC E s t) (hf : ∀ z ∈ locs, free z.base) (hc : cells ≤ mc) (hs : slots ≤ ms) :
    vx_W p l e R s m args below meth c H locs cells slots (vx_MQ below Qc XC args s mc ms free) (F0 m pc ls rest) q := by
  intro T hT X
  obtain ⟨st1, hrun, hend, hW, hsm⟩ := X.leaveThrown q (g := F0 m pc ls rest) rfl rfl rfl hout hlocks
  have hcell9 : (T.setFrames (.throwing q :: below)).heap[q]? = some ce := by
    show T.heap[q]? = some ce
    rw [hT]; exact hcell
  exact ⟨_, st1, .threw q, hrun, hend, Or.inr ⟨q, rfl, E, ce, locs, hx _ hT hW.alike, hcell9, hv, hcl, hW, hsm.mono hc hs, hf⟩⟩
theorem vx_frame {U : State} {k n : Nat} (h : s.sameButNew ({ U with vm := s.vm } : State) locs k n) : s.heap.size ≤ U.heap.size ∧ ∀ q : Nat, q < s.heap.size → (∀ z ∈ locs, z.base ≠ q) → U.heap[q]? = s.heap[q]? := by
  obtain ⟨-, h2, -, -, -, h6⟩ := h
  refine ⟨h2, fun q hq hz => ?_⟩
  obtain ⟨c9, e1, e2, e3, e4⟩ := h6 q _ (Array.getElem?_eq_getElem hq)
  have hs : c9.slots = (s.heap[q]).slots := Array.ext_getElem? fun i => e4 i fun hm => hz _ hm rfl
  have h9 : c9 = s.heap[q] := by
    rw [hs] at e2
    exact e2
  have e5 : U.heap[q]? = some c9 := e1
  rw [e5, h9, Array.getElem?_eq_getElem hq]
/-- the words of a throw but the four that speak of the heap -/
def vx_no (w : Cond) : Bool := decide (w ≠ .isRef (.static Bundle.tN "UNASSIGNED_STACK" Bundle.steD)) && decide (w ≠ .isRef (.static Bundle.tN "SUPPRESSED_SENTINEL" Bundle.listD)) && decide (w ≠ .laysStatic Bundle.tN "UNASSIGNED_STACK" Bundle.steD) && decide (w ≠ .laysStatic Bundle.tN "SUPPRESSED_SENTINEL" Bundle.listD)
def vx_at0 (own : String) (ic : Nat) (X : String) (names : List String) : List Cond := (Bundle.ownAtoms0 own ic X names).filter vx_no
def vx_atS (own : String) (ic : Nat) (X : String) (names : List String) : List Cond := (Bundle.ownAtoms own ic X names).filter vx_no
/-- a word that the tables alone decide, or a good one -/
def vx_ot (w : Cond) : Bool := w.onTables || goodWord w
theorem vx_ot_at {args a' : Array Value} {s U : State} {w : Cond} (hW : s.WarmedH U.vm) (hvm : s.vm = U.vm) (hg : vx_ot w = true) (h : w.before args s = true) : w.before a' U = true := by
  simp only [vx_ot, Bool.or_eq_true] at hg
  rcases hg with hg | hg
  · exact va_tabs hg hvm h
  · exact word_at hW (good_of_word hg) h
/-- a list's words: the good ones out of the method's own list, the others by premises of their own -/
theorem vx_hat {args : Array Value} {s : State} {L B : List Cond} (h1 : ∀ w ∈ L.filter goodWord, w.before args s = true) (h2 : ∀ w ∈ L.filter (fun w => !goodWord w), w ∈ B) (h3 : ∀ w ∈ B, w.before args s = true) : ∀ w ∈ L, w.before args s = true := by
  intro w hw
  by_cases g : goodWord w = true
  · exact h1 w (List.mem_filter.mpr ⟨hw, g⟩)
  · refine h3 w (h2 w (List.mem_filter.mpr ⟨hw, ?_⟩))
    show (!goodWord w) = true
    cases hgw : goodWord w
    · rfl
    · exact absurd hgw g
theorem vx_c {args : Array Value} {s : State} {w : Cond} {B : List Cond} (h : w.before args s = true) (t : ∀ w ∈ B, w.before args s = true) : ∀ w' ∈ w :: B, w'.before args s = true := fun w' h' => (List.mem_cons.mp h').elim (fun e => by rw [e]; exact h) (t w')
theorem vx_n {args : Array Value} {s : State} : ∀ w ∈ ([] : List Cond), w.before args s = true := fun _ h => nomatch h
theorem vx_own {args : Array Value} {s : State} {L : List Cond} (h1 : ∀ w ∈ L.filter vx_no, w.before args s = true)
    (hU : (Cond.isRef (.static Bundle.tN "UNASSIGNED_STACK" Bundle.steD)).before args s = true) (hN : (Cond.isRef (.static Bundle.tN "SUPPRESSED_SENTINEL" Bundle.listD)).before args s = true)
    (lU : (Cond.laysStatic Bundle.tN "UNASSIGNED_STACK" Bundle.steD).before args s = true) (lN : (Cond.laysStatic Bundle.tN "SUPPRESSED_SENTINEL" Bundle.listD).before args s = true) : ∀ w ∈ L, w.before args s = true := by
  intro w hw
  by_cases e1 : w = .isRef (.static Bundle.tN "UNASSIGNED_STACK" Bundle.steD)
  · rw [e1]; exact hU
  · by_cases e2 : w = .isRef (.static Bundle.tN "SUPPRESSED_SENTINEL" Bundle.listD)
    · rw [e2]; exact hN
    · by_cases e3 : w = .laysStatic Bundle.tN "UNASSIGNED_STACK" Bundle.steD
      · rw [e3]; exact lU
      · by_cases e4 : w = .laysStatic Bundle.tN "SUPPRESSED_SENTINEL" Bundle.listD
        · rw [e4]; exact lN
        · exact h1 w (List.mem_filter.mpr ⟨hw, by unfold vx_no; rw [decide_eq_true e1, decide_eq_true e2, decide_eq_true e3, decide_eq_true e4]; rfl⟩)
/-- where a static field lies, its class's statics cell in H -/
def vx_L (C n d : String) (A : Nat → Prop) (U : State) (H : Heap) : Prop := ∃ (c : ClassId) (k : Class) (i : Nat) (f : Field) (a : Nat) (cell : Cell), U.vm.findClass C = some c ∧ U.fieldFound? C n d = some (c, k, i, f) ∧ f.isStatic = true ∧ k.statics = some a ∧ H[a]? = some cell ∧ cell.vm.isStatics = true ∧ cell.cls = c ∧ f.slot < cell.slots.size ∧ k.staticTypes[f.slot]? = some f.type ∧ ¬ A a
theorem vx_L.moved {C n d : String} {A : Nat → Prop} {u U : State} {H : Heap} (hvm : u.vm.Alike U.vm) (h : vx_L C n d A u H) : vx_L C n d A U H := by
  obtain ⟨c, k, i, f, a, cell, h1, h2, h3, h4, h5, h6, h7, h8, h9, h10⟩ := h
  obtain ⟨k', hi', he⟩ := State.fieldFound?_setVm hvm h2
  exact ⟨c, k', i, f, a, cell, by rw [hvm.findClass]; exact h1, hi', h3, by rw [he]; exact h4, h5, h6, h7, h8, by rw [he]; exact h9, h10⟩
theorem vx_L.kept {C n d : String} {A : Nat → Prop} {U : State} {H H1 : Heap} (h : vx_L C n d A U H) (hq : ∀ a : Nat, a < H.size → ¬ A a → H1[a]? = H[a]?) : vx_L C n d A U H1 := by
  obtain ⟨c, k, i, f, a, cell, h1, h2, h3, h4, h5, h6, h7, h8, h9, h10⟩ := h
  exact ⟨c, k, i, f, a, cell, h1, h2, h3, h4, by rw [hq a (Array.getElem?_eq_some_iff.mp h5).1 h10]; exact h5, h6, h7, h8, h9, h10⟩
theorem vx_L.narrow {C n d : String} {A B : Nat → Prop} {U : State} {H : Heap} (h : vx_L C n d A U H) (hAB : ∀ q, B q → A q) : vx_L C n d B U H := by
  obtain ⟨c, k, i, f, a, cell, h1, h2, h3, h4, h5, h6, h7, h8, h9, h10⟩ := h
  exact ⟨c, k, i, f, a, cell, h1, h2, h3, h4, h5, h6, h7, h8, h9, fun z => h10 (hAB _ z)⟩
theorem vx_L.word {C n d : String} {A : Nat → Prop} {s : State} {args : Array Value} (h : vx_L C n d A s s.heap) : (Cond.laysStatic C n d).before args s = true := by
  obtain ⟨c, k, i, f, a, cell, h1, h2, h3, h4, h5, h6, h7, h8, h9, -⟩ := h
  show (Cond.laysStatic C n d).holds args s none s [] = true
  exact Cond.laysStatic_of h1 h2 h3 h4 h5 h6 h7 h8 h9
/-- .. and what it holds: null or some reference -/
def vx_Zq (C n d : String) (A : Nat → Prop) (U : State) (H : Heap) : Prop := va_Zq C n d A U H ∧ vx_L C n d A U H
theorem vx_Zq.moved {C n d : String} {A : Nat → Prop} {u U : State} {H : Heap} (hvm : u.vm.Alike U.vm) (h : vx_Zq C n d A u H) : vx_Zq C n d A U H := ⟨va_Zq.moved hvm h.1, vx_L.moved hvm h.2⟩
theorem vx_Zq.kept {C n d : String} {A : Nat → Prop} {U : State} {H H1 : Heap} (h : vx_Zq C n d A U H) (hq : ∀ a : Nat, a < H.size → ¬ A a → H1[a]? = H[a]?) : vx_Zq C n d A U H1 := ⟨va_Zq.kept h.1 hq, vx_L.kept h.2 hq⟩
theorem vx_Zq.narrow {C n d : String} {A B : Nat → Prop} {U : State} {H : Heap} (h : vx_Zq C n d A U H) (hAB : ∀ q, B q → A q) : vx_Zq C n d B U H := ⟨va_Zq.narrow h.1 hAB, vx_L.narrow h.2 hAB⟩
theorem vx_Zqof {args : Array Value} {s : State} {C n d : String} {A : Nat → Prop} (hl : (Cond.laysStatic C n d).before args s = true) (hini : (Cond.initialized C).before args s = true) (h : (Cond.isRef (.static C n d)).before args s = true) (hA : ∀ a : Nat, a < s.heap.size → ¬ A a) : vx_Zq C n d A s s.heap := by
  refine ⟨va_Zqof hl hini h hA, ?_⟩
  obtain ⟨c, k, i, f, a, cell, h1, h2, h3, h4, h5, h6, h7, h8, h9⟩ := Cond.laysStatic_spec hl
  exact ⟨c, k, i, f, a, cell, h1, h2, h3, h4, h5, h6, h7, h8, h9, hA a (Array.getElem?_eq_some_iff.mp h5).1⟩
theorem vx_isRef {C n d : String} {v : Value} {A : Nat → Prop} {s : State} {args : Array Value} (h : va_Z C n d v A s s.heap) (hv : v.isRef = true) : (Cond.isRef (.static C n d)).before args s = true := by
  obtain ⟨cf, kf, fi, f, a, cell, h1, h2, h3, h4, h5, h6, h7, -⟩ := h
  have he : (Term.static C n d).eval args s none [] s = some v := by
    simp [Term.eval, State.fieldNamed?, h1, h2, h4, h5, h6, h7]
  simp only [Cond.before, Cond.holds, Cond.value, he]
  cases v <;> simp_all [Value.isRef]
theorem vx_isRefq {C n d : String} {A : Nat → Prop} {s : State} {args : Array Value} (h : va_Zq C n d A s s.heap) : (Cond.isRef (.static C n d)).before args s = true := by
  rcases h with h | ⟨t, h⟩
  · exact vx_isRef h rfl
  · exact vx_isRef h rfl
/-- the same frame, seen from here: as if the method were called anew in this heap -/
theorem vx_rebase {T : State} (X : Stand p l e R s m args below meth c T locs cells slots) {R' : Room} (hf : R'.frames ≤ R.frames) (hl : R'.locals ≤ R.locals) (hc : cells + R'.cells ≤ R.cells) (hs : slots + R'.slots ≤ R.slots) :
    Stand p l e R' ((T.setVm s.vm).setFrames (.invoking m args :: below)) m args below meth c T [] 0 0 := by
  have htop : (T.setVm s.vm).topJava?.isSome := X.here.top
  have hF : ((T.setVm s.vm).setFrames (.invoking m args :: below)).frames = .invoking m args :: below := State.frames_setFrames _ (State.cur_lt_of_top htop)
  obtain ⟨g₀, hg0⟩ := Option.isSome_iff_exists.mp htop
  obtain ⟨r, hr⟩ := State.topJava?_eq_some.mp hg0
  have hl9 : e.platform.stackLimits (T.setVm s.vm).me = e.platform.stackLimits s.me := X.limits
  have hb9 : (T.setVm s.vm).me.stackBytes = s.me.stackBytes := X.bytes
  refine ⟨X.admits, X.cas, X.clock, hF, ?_, X.hears, X.method, X.code, X.here, X.tail, X.warmed, ?_, ?_, ?_⟩
  · have h := X.room
    have hU : ((T.setVm s.vm).setFrames (.invoking m args :: below)).localsInUse = s.localsInUse := by
      rw [State.localsInUse_invoking hF (meth := meth) (c := c) X.method X.code, State.localsInUse_invoking X.frames X.method X.code]
    simp only [State.hasRoom, Bool.and_eq_true, decide_eq_true_eq] at h ⊢
    obtain ⟨⟨⟨⟨h1, h2, h3, h4, h5, h6⟩, h7⟩, h8⟩, h9⟩ := h
    rw [X.frames, List.length_cons] at h2 h3
    have q1 := X.heapSize
    have q2 := X.used
    simp only [hF, hU, List.length_cons, State.stackLimits_setFrames, State.stackBytes_setFrames, hl9, hb9]
    refine ⟨⟨⟨⟨by omega, by omega, by omega, by omega, by omega, h6⟩, ?_⟩, ?_⟩, X.book⟩
    · show T.heap.size + R'.cells ≤ e.platform.maxCells
      omega
    · show T.slotsUsed + R'.slots ≤ e.platform.maxSlots
      omega
  · rw [State.stackLimits_setFrames]; rfl
  · rw [State.stackBytes_setFrames]; rfl
  · refine ⟨?_, Nat.le_refl _, Nat.le_refl _, ?_, ?_, fun a c9 h9 => ⟨c9, h9, rfl, rfl, fun _ _ => rfl⟩⟩
    · obtain ⟨t, ht, -⟩ := State.frames_cons hr
      show T.setVm s.vm = { ((T.setVm s.vm).setFrames (.invoking m args :: below)).setFrames (T.setVm s.vm).frames with heap := T.heap, slotsUsed := T.slotsUsed }
      rw [State.setFrames_setFrames, State.setFrames_self ht]
      rfl
    · show T.slotsUsed = T.slotsUsed + ((T.heap.toList.drop T.heap.size).map (·.slots.size)).sum
      rw [List.drop_eq_nil_of_le (Nat.le_of_eq Array.length_toList)]
      rfl
    · show ((T.heap.toList.drop T.heap.size).map (·.slots.size)).sum ≤ 0
      rw [List.drop_eq_nil_of_le (Nat.le_of_eq Array.length_toList)]
      exact Nat.le_refl _
/-- 'throw new E()': new; dup; invokespecial; athrow -/
theorem vx_throw0 {cc : ByteArray} {pc : Nat} (hexec : p.tables.exec = Jvm.exec) (hb : c.code = cc) (hl : l.stackTraces = false) {own cls : String} {names : List String} {ik ic mc ms : Nat} {A : Nat → Prop}
    (hown : s.vm.findClass own = some m.cls) (hcls : Bundle.fit cls = true) (hnames : ∀ n ∈ names, Bundle.fit n = true)
    (hk : (Cond.classLink own ik cls).before args s = true) (hini : (Cond.initialized cls).before args s = true) (hat : ∀ w ∈ vx_at0 own ic cls names, w.before args s = true)
    (hgood : ∀ w ∈ Cond.classLink own ik cls :: Cond.initialized cls :: vx_at0 own ic cls names, vx_ot w = true)
    (hU : vx_Zq Bundle.tN "UNASSIGNED_STACK" Bundle.steD A s s.heap) (hN : vx_Zq Bundle.tN "SUPPRESSED_SENTINEL" Bundle.listD A s s.heap) (hS : va_S A s.heap H locs) (hsize : ls.size = c.maxLocals)
    (d0 : decode cc pc = .ok (.new ik, 3)) (d3 : decode cc (pc + 3) = .ok (.dup, 1)) (d4 : decode cc (pc + 4) = .ok (.invokespecial ic, 3)) (d7 : decode cc (pc + 7) = .ok (.athrow, 1))
    (hout : ∀ x ∈ c.exceptionTable.toList, covers x (pc + 7) = false)
    (hRframes : names.length + 3 < R.frames) (hRlocals : (rest.map fun v => v.category).sum + (13 * (names.length + 1) + 42) ≤ R.locals) (hRcells : cells + 1 ≤ R.cells) (hRslots : slots + 6 ≤ R.slots) (hlocks : meth.locks = false)
    (hx : ∀ t : State, s.vm.Alike t.vm → H.size ≤ t.heap.size → (∀ q : Nat, q < H.size → t.heap[q]? = H[q]?) → XC cls s t)
    (hf : ∀ z ∈ locs, free z.base) (hc : cells + 1 ≤ mc) (hs : slots + 6 ≤ ms) :
    W p l e R s m args below meth c H locs cells slots (vx_MQ below Qc XC args s mc ms free) (F0 m pc ls rest) := by
  intro T hT X
  have htr : e.platform.stackTraces = false := (show e.platform.stackTraces = l.stackTraces by rw [X.admits.platform]).trans hl
  have Y := vx_rebase X (R' := { frames := R.frames, locals := R.locals, cells := 1, slots := 6 }) (Nat.le_refl _) (Nat.le_refl _) hRcells hRslots
  obtain ⟨s', hA⟩ : ∃ z, z = (T.setVm s.vm).setFrames (.invoking m args :: below) := ⟨_, rfl⟩
  rw [← hA] at Y
  have hvm : s'.vm = s.vm := by rw [hA]; rfl
  have hhp : s'.heap = H := by rw [hA]; exact hT
  have hW0 : s.WarmedH s'.vm := by rw [hvm]; exact State.WarmedH.refl s
  have hat' : ∀ w ∈ vx_at0 own ic cls names, w.before args s' = true := fun w hw => vx_ot_at hW0 hvm.symm (hgood w (List.mem_cons_of_mem _ (List.mem_cons_of_mem _ hw))) (hat w hw)
  have hk' : (Cond.classLink own ik cls).before args s' = true := vx_ot_at hW0 hvm.symm (hgood _ List.mem_cons_self) hk
  have hini' : (Cond.initialized cls).before args s' = true := vx_ot_at hW0 hvm.symm (hgood _ (List.mem_cons_of_mem _ List.mem_cons_self)) hini
  have hU' : vx_Zq Bundle.tN "UNASSIGNED_STACK" Bundle.steD A s' s'.heap := by rw [hhp]; exact vx_Zq.moved hW0.alike (hU.kept hS.2.1)
  have hN' : vx_Zq Bundle.tN "SUPPRESSED_SENTINEL" Bundle.listD A s' s'.heap := by rw [hhp]; exact vx_Zq.moved hW0.alike (hN.kept hS.2.1)
  have h : ∀ w ∈ Bundle.ownAtoms0 own ic cls names, w.before args s' = true := vx_own hat' (vx_isRefq hU'.1) (vx_isRefq hN'.1) hU'.2.word hN'.2.word
  have hown' : s'.vm.findClass own = some m.cls := by rw [hvm]; exact hown
  have hins : (Cond.instantiable cls 6).before args s' = true := h _ (by simp [Bundle.ownAtoms0])
  obtain ⟨vm₁, cX, kX, hfX, hkX, -, -, X₁, st1⟩ := Y.newCold hexec (own := own) (C := cls) (index := ik) (n := 6) hown' hk' hins hini'
    (g := F0 m pc ls rest) rfl (by rw [hb]; exact d0) (Nat.le_refl _) (Nat.le_refl _)
  generalize hT1 : (T.setVm vm₁).pushCell { cls := cX, slots := kX.instanceTypes.map defaultValue, vm := .none } = T1 at X₁ st1
  have hcat : (Value.ref T.heap.size).category = 1 := rfl
  have hcellA : T1.heap[T.heap.size]? = some (freshCell cX kX) := by rw [← hT1]; exact State.heap_pushCell_size _ _
  have d3' : decode c.code (pc + 3) = .ok (.dup, 1) := by rw [hb]; exact d3
  obtain ⟨U, hsteps, hrun, hend, hW, hsame, ce, hce, hO⟩ := X₁.ctorThrow0 hexec htr (own := own) (cls := cls) (names := names) (ic := ic) hown' hcls hnames h (fun x hx => nomatch hx) hfX hkX hcellA (by rw [hhp, hT]; exact Nat.le_refl _)
    (g := { method := m, pc := pc + 4, locals := ls, stack := .ref T.heap.size :: .ref T.heap.size :: rest, locked := none }) rfl hsize rfl rfl (rest := rest) rfl
    (by rw [hb]; exact d4) (by rw [hb]; exact d7) hout hRframes (by simp only [List.map_cons, List.sum_cons, hcat]; omega) hlocks
  obtain ⟨f1, f2⟩ := vx_frame hsame
  rw [hhp] at f1 f2
  have hWs : s.WarmedH U.vm := State.WarmedH.trans hW0 hW
  have hcl : s.vm.findClass cls = some ce.cls := by
    have h9 := hO.cls
    rw [hvm] at h9
    exact h9
  have hall : s.sameButNew ({ U with vm := s.vm } : State) locs mc ms := by
    subst hA
    obtain ⟨e1, e2⟩ := hsame
    rw [State.setFrames_setFrames] at e1
    have h2 : (T.setVm s.vm).sameButNew ({ U with vm := s.vm } : State) [] (0 + 1) (0 + 6) := ⟨e1, e2⟩
    have h3 := X.same.trans h2
    rw [List.append_nil] at h3
    exact h3.mono hc hs
  refine ⟨U, ?_, .threw T.heap.size, hrun, hend, Or.inr ⟨T.heap.size, rfl, cls, ce, locs, hx U hWs.alike f1 (fun q hq => f2 q hq (fun z hz => nomatch hz)), hce, hO.vm, hcl, hWs, hall, hf⟩⟩
  refine st1 _ ?_
  show Steps p.tables e below (T1.setTop { method := m, pc := pc + 3, locals := ls, stack := .ref T.heap.size :: rest, locked := none }) _
  jvm_step X₁.here [X₁.here.top, hexec, d3', Value.category]
  exact hsteps
/-- 'throw new E("text")': new; dup; ldc; invokespecial; athrow -/
theorem vx_throwS {cc : ByteArray} {pc : Nat} (hexec : p.tables.exec = Jvm.exec) (hb : c.code = cc) (hl : l.stackTraces = false) {own cls text : String} {names : List String} {ik is ic mc ms sa : Nat} {A : Nat → Prop}
    (hown : s.vm.findClass own = some m.cls) (hcls : Bundle.fit cls = true) (hnames : ∀ n ∈ names, Bundle.fit n = true)
    (hk : (Cond.classLink own ik cls).before args s = true) (hini : (Cond.initialized cls).before args s = true) (hstr : vk_R own is text sa s) (hat : ∀ w ∈ vx_atS own ic cls names, w.before args s = true)
    (hgood : ∀ w ∈ Cond.classLink own ik cls :: Cond.initialized cls :: vx_atS own ic cls names, vx_ot w = true)
    (hU : vx_Zq Bundle.tN "UNASSIGNED_STACK" Bundle.steD A s s.heap) (hN : vx_Zq Bundle.tN "SUPPRESSED_SENTINEL" Bundle.listD A s s.heap) (hS : va_S A s.heap H locs) (hsize : ls.size = c.maxLocals)
    (d0 : decode cc pc = .ok (.new ik, 3)) (d3 : decode cc (pc + 3) = .ok (.dup, 1)) (d4 : decode cc (pc + 4) = .ok (.ldc is, 2)) (d6 : decode cc (pc + 6) = .ok (.invokespecial ic, 3)) (d9 : decode cc (pc + 9) = .ok (.athrow, 1))
    (hout : ∀ x ∈ c.exceptionTable.toList, covers x (pc + 9) = false)
    (hRframes : names.length + 3 < R.frames) (hRlocals : (rest.map fun v => v.category).sum + (13 * (names.length + 1) + 43) ≤ R.locals) (hRcells : cells + 1 ≤ R.cells) (hRslots : slots + 6 ≤ R.slots) (hlocks : meth.locks = false)
    (hx : ∀ t : State, s.vm.Alike t.vm → H.size ≤ t.heap.size → (∀ q : Nat, q < H.size → t.heap[q]? = H[q]?) → XC cls s t)
    (hf : ∀ z ∈ locs, free z.base) (hc : cells + 1 ≤ mc) (hs : slots + 6 ≤ ms) :
    W p l e R s m args below meth c H locs cells slots (vx_MQ below Qc XC args s mc ms free) (F0 m pc ls rest) := by
  intro T hT X
  have htr : e.platform.stackTraces = false := (show e.platform.stackTraces = l.stackTraces by rw [X.admits.platform]).trans hl
  have Y := vx_rebase X (R' := { frames := R.frames, locals := R.locals, cells := 1, slots := 6 }) (Nat.le_refl _) (Nat.le_refl _) hRcells hRslots
  obtain ⟨s', hA⟩ : ∃ z, z = (T.setVm s.vm).setFrames (.invoking m args :: below) := ⟨_, rfl⟩
  rw [← hA] at Y
  have hvm : s'.vm = s.vm := by rw [hA]; rfl
  have hhp : s'.heap = H := by rw [hA]; exact hT
  have hW0 : s.WarmedH s'.vm := by rw [hvm]; exact State.WarmedH.refl s
  have hat' : ∀ w ∈ vx_atS own ic cls names, w.before args s' = true := fun w hw => vx_ot_at hW0 hvm.symm (hgood w (List.mem_cons_of_mem _ (List.mem_cons_of_mem _ hw))) (hat w hw)
  have hk' : (Cond.classLink own ik cls).before args s' = true := vx_ot_at hW0 hvm.symm (hgood _ List.mem_cons_self) hk
  have hini' : (Cond.initialized cls).before args s' = true := vx_ot_at hW0 hvm.symm (hgood _ (List.mem_cons_of_mem _ List.mem_cons_self)) hini
  have hU' : vx_Zq Bundle.tN "UNASSIGNED_STACK" Bundle.steD A s' s'.heap := by rw [hhp]; exact vx_Zq.moved hW0.alike (hU.kept hS.2.1)
  have hN' : vx_Zq Bundle.tN "SUPPRESSED_SENTINEL" Bundle.listD A s' s'.heap := by rw [hhp]; exact vx_Zq.moved hW0.alike (hN.kept hS.2.1)
  have h : ∀ w ∈ Bundle.ownAtoms own ic cls names, w.before args s' = true := vx_own hat' (vx_isRefq hU'.1) (vx_isRefq hN'.1) hU'.2.word hN'.2.word
  have hown' : s'.vm.findClass own = some m.cls := by rw [hvm]; exact hown
  have hins : (Cond.instantiable cls 6).before args s' = true := h _ (by simp [Bundle.ownAtoms])
  obtain ⟨vm₁, cX, kX, hfX, hkX, -, -, X₁, st1⟩ := Y.newCold hexec (own := own) (C := cls) (index := ik) (n := 6) hown' hk' hins hini'
    (g := F0 m pc ls rest) rfl (by rw [hb]; exact d0) (Nat.le_refl _) (Nat.le_refl _)
  generalize hT1 : (T.setVm vm₁).pushCell { cls := cX, slots := kX.instanceTypes.map defaultValue, vm := .none } = T1 at X₁ st1
  have hcat : (Value.ref T.heap.size).category = 1 := rfl
  have hcellA : T1.heap[T.heap.size]? = some (freshCell cX kX) := by rw [← hT1]; exact State.heap_pushCell_size _ _
  have d3' : decode c.code (pc + 3) = .ok (.dup, 1) := by rw [hb]; exact d3
  have d4' : decode c.code (pc + 4) = .ok (.ldc is, 2) := by rw [hb]; exact d4
  have hstr' : vk_R own is text sa s' := vk_R.warm hW0 hstr
  obtain ⟨U, hsteps, hrun, hend, hW, hsame, ce, hce, hO⟩ := X₁.ctorThrowS hexec htr (own := own) (cls := cls) (names := names) (ic := ic) hown' hcls hnames h (fun x hx => nomatch hx) hfX hkX hcellA (by rw [hhp, hT]; exact Nat.le_refl _) (msg := .ref sa) rfl
    (g := { method := m, pc := pc + 6, locals := ls, stack := .ref sa :: .ref T.heap.size :: .ref T.heap.size :: rest, locked := none }) rfl hsize rfl rfl (rest := rest) rfl
    (by rw [hb]; exact d6) (by rw [hb]; exact d9) hout hRframes (by simp only [List.map_cons, List.sum_cons, hcat]; omega) hlocks
  obtain ⟨f1, f2⟩ := vx_frame hsame
  rw [hhp] at f1 f2
  have hWs : s.WarmedH U.vm := State.WarmedH.trans hW0 hW
  have hcl : s.vm.findClass cls = some ce.cls := by
    have h9 := hO.cls
    rw [hvm] at h9
    exact h9
  have hall : s.sameButNew ({ U with vm := s.vm } : State) locs mc ms := by
    subst hA
    obtain ⟨e1, e2⟩ := hsame
    rw [State.setFrames_setFrames] at e1
    have h2 : (T.setVm s.vm).sameButNew ({ U with vm := s.vm } : State) [] (0 + 1) (0 + 6) := ⟨e1, e2⟩
    have h3 := X.same.trans h2
    rw [List.append_nil] at h3
    exact h3.mono hc hs
  refine ⟨U, ?_, .threw T.heap.size, hrun, hend, Or.inr ⟨T.heap.size, rfl, cls, ce, locs, hx U hWs.alike f1 (fun q hq => f2 q hq (fun z hz => nomatch hz)), hce, hO.vm, hcl, hWs, hall, hf⟩⟩
  refine st1 _ ?_
  show Steps p.tables e below (T1.setTop { method := m, pc := pc + 3, locals := ls, stack := .ref T.heap.size :: rest, locked := none }) _
  jvm_step X₁.here [X₁.here.top, hexec, d3', Value.category]
  exact X₁.ldcString hexec (own := own) (text := text) (index := is) (a := sa) hown' hstr'.1 hstr'.2
    (g := { method := m, pc := pc + 4, locals := ls, stack := .ref T.heap.size :: .ref T.heap.size :: rest, locked := none }) rfl d4' _ hsteps
/-- 'throw new E("text")', the text by a wide index -/
theorem vx_throwSW {cc : ByteArray} {pc : Nat} (hexec : p.tables.exec = Jvm.exec) (hb : c.code = cc) (hl : l.stackTraces = false) {own cls text : String} {names : List String} {ik is ic mc ms sa : Nat} {A : Nat → Prop}
    (hown : s.vm.findClass own = some m.cls) (hcls : Bundle.fit cls = true) (hnames : ∀ n ∈ names, Bundle.fit n = true)
    (hk : (Cond.classLink own ik cls).before args s = true) (hini : (Cond.initialized cls).before args s = true) (hstr : vk_R own is text sa s) (hat : ∀ w ∈ vx_atS own ic cls names, w.before args s = true)
    (hgood : ∀ w ∈ Cond.classLink own ik cls :: Cond.initialized cls :: vx_atS own ic cls names, vx_ot w = true)
    (hU : vx_Zq Bundle.tN "UNASSIGNED_STACK" Bundle.steD A s s.heap) (hN : vx_Zq Bundle.tN "SUPPRESSED_SENTINEL" Bundle.listD A s s.heap) (hS : va_S A s.heap H locs) (hsize : ls.size = c.maxLocals)
    (d0 : decode cc pc = .ok (.new ik, 3)) (d3 : decode cc (pc + 3) = .ok (.dup, 1)) (d4 : decode cc (pc + 4) = .ok (.ldc_w is, 3)) (d7 : decode cc (pc + 7) = .ok (.invokespecial ic, 3)) (d10 : decode cc (pc + 10) = .ok (.athrow, 1))
    (hout : ∀ x ∈ c.exceptionTable.toList, covers x (pc + 10) = false)
    (hRframes : names.length + 3 < R.frames) (hRlocals : (rest.map fun v => v.category).sum + (13 * (names.length + 1) + 43) ≤ R.locals) (hRcells : cells + 1 ≤ R.cells) (hRslots : slots + 6 ≤ R.slots) (hlocks : meth.locks = false)
    (hx : ∀ t : State, s.vm.Alike t.vm → H.size ≤ t.heap.size → (∀ q : Nat, q < H.size → t.heap[q]? = H[q]?) → XC cls s t)
    (hf : ∀ z ∈ locs, free z.base) (hc : cells + 1 ≤ mc) (hs : slots + 6 ≤ ms) :
    W p l e R s m args below meth c H locs cells slots (vx_MQ below Qc XC args s mc ms free) (F0 m pc ls rest) := by
  intro T hT X
  have htr : e.platform.stackTraces = false := (show e.platform.stackTraces = l.stackTraces by rw [X.admits.platform]).trans hl
  have Y := vx_rebase X (R' := { frames := R.frames, locals := R.locals, cells := 1, slots := 6 }) (Nat.le_refl _) (Nat.le_refl _) hRcells hRslots
  obtain ⟨s', hA⟩ : ∃ z, z = (T.setVm s.vm).setFrames (.invoking m args :: below) := ⟨_, rfl⟩
  rw [← hA] at Y
  have hvm : s'.vm = s.vm := by rw [hA]; rfl
  have hhp : s'.heap = H := by rw [hA]; exact hT
  have hW0 : s.WarmedH s'.vm := by rw [hvm]; exact State.WarmedH.refl s
  have hat' : ∀ w ∈ vx_atS own ic cls names, w.before args s' = true := fun w hw => vx_ot_at hW0 hvm.symm (hgood w (List.mem_cons_of_mem _ (List.mem_cons_of_mem _ hw))) (hat w hw)
  have hk' : (Cond.classLink own ik cls).before args s' = true := vx_ot_at hW0 hvm.symm (hgood _ List.mem_cons_self) hk
  have hini' : (Cond.initialized cls).before args s' = true := vx_ot_at hW0 hvm.symm (hgood _ (List.mem_cons_of_mem _ List.mem_cons_self)) hini
  have hU' : vx_Zq Bundle.tN "UNASSIGNED_STACK" Bundle.steD A s' s'.heap := by rw [hhp]; exact vx_Zq.moved hW0.alike (hU.kept hS.2.1)
  have hN' : vx_Zq Bundle.tN "SUPPRESSED_SENTINEL" Bundle.listD A s' s'.heap := by rw [hhp]; exact vx_Zq.moved hW0.alike (hN.kept hS.2.1)
  have h : ∀ w ∈ Bundle.ownAtoms own ic cls names, w.before args s' = true := vx_own hat' (vx_isRefq hU'.1) (vx_isRefq hN'.1) hU'.2.word hN'.2.word
  have hown' : s'.vm.findClass own = some m.cls := by rw [hvm]; exact hown
  have hins : (Cond.instantiable cls 6).before args s' = true := h _ (by simp [Bundle.ownAtoms])
  obtain ⟨vm₁, cX, kX, hfX, hkX, -, -, X₁, st1⟩ := Y.newCold hexec (own := own) (C := cls) (index := ik) (n := 6) hown' hk' hins hini'
    (g := F0 m pc ls rest) rfl (by rw [hb]; exact d0) (Nat.le_refl _) (Nat.le_refl _)
  generalize hT1 : (T.setVm vm₁).pushCell { cls := cX, slots := kX.instanceTypes.map defaultValue, vm := .none } = T1 at X₁ st1
  have hcat : (Value.ref T.heap.size).category = 1 := rfl
  have hcellA : T1.heap[T.heap.size]? = some (freshCell cX kX) := by rw [← hT1]; exact State.heap_pushCell_size _ _
  have d3' : decode c.code (pc + 3) = .ok (.dup, 1) := by rw [hb]; exact d3
  have d4' : decode c.code (pc + 4) = .ok (.ldc_w is, 3) := by rw [hb]; exact d4
  have hstr' : vk_R own is text sa s' := vk_R.warm hW0 hstr
  obtain ⟨U, hsteps, hrun, hend, hW, hsame, ce, hce, hO⟩ := X₁.ctorThrowS hexec htr (own := own) (cls := cls) (names := names) (ic := ic) hown' hcls hnames h (fun x hx => nomatch hx) hfX hkX hcellA (by rw [hhp, hT]; exact Nat.le_refl _) (msg := .ref sa) rfl
    (g := { method := m, pc := pc + 7, locals := ls, stack := .ref sa :: .ref T.heap.size :: .ref T.heap.size :: rest, locked := none }) rfl hsize rfl rfl (rest := rest) rfl
    (by rw [hb]; exact d7) (by rw [hb]; exact d10) hout hRframes (by simp only [List.map_cons, List.sum_cons, hcat]; omega) hlocks
  obtain ⟨f1, f2⟩ := vx_frame hsame
  rw [hhp] at f1 f2
  have hWs : s.WarmedH U.vm := State.WarmedH.trans hW0 hW
  have hcl : s.vm.findClass cls = some ce.cls := by
    have h9 := hO.cls
    rw [hvm] at h9
    exact h9
  have hall : s.sameButNew ({ U with vm := s.vm } : State) locs mc ms := by
    subst hA
    obtain ⟨e1, e2⟩ := hsame
    rw [State.setFrames_setFrames] at e1
    have h2 : (T.setVm s.vm).sameButNew ({ U with vm := s.vm } : State) [] (0 + 1) (0 + 6) := ⟨e1, e2⟩
    have h3 := X.same.trans h2
    rw [List.append_nil] at h3
    exact h3.mono hc hs
  refine ⟨U, ?_, .threw T.heap.size, hrun, hend, Or.inr ⟨T.heap.size, rfl, cls, ce, locs, hx U hWs.alike f1 (fun q hq => f2 q hq (fun z hz => nomatch hz)), hce, hO.vm, hcl, hWs, hall, hf⟩⟩
  refine st1 _ ?_
  show Steps p.tables e below (T1.setTop { method := m, pc := pc + 3, locals := ls, stack := .ref T.heap.size :: rest, locked := none }) _
  jvm_step X₁.here [X₁.here.top, hexec, d3', Value.category]
  exact X₁.ldcStringW hexec (own := own) (text := text) (index := is) (a := sa) hown' hstr'.1 hstr'.2
    (g := { method := m, pc := pc + 4, locals := ls, stack := .ref T.heap.size :: .ref T.heap.size :: rest, locked := none }) rfl d4' _ hsteps
end Ends
section Bodies
variable {l : Launch}
theorem vx_ofW {y : MethodName} {ws ws' : List Cond} {rm : Room} {Pc : Array Value → State → Prop} {Qc : Array Value → State → Outcome → State → Prop} {XC : String → State → State → Prop} {mc ms : Nat} {free : Addr → Prop} {cc : ByteArray} {maxL : Nat} {ret : Option FieldType}
    (hy : plainName y.cls = true) (hw : ws = Cond.code y cc maxL ret :: ws')
    (body : ∀ p e s m args below meth c s₁, BodyLoose p l y (headSpec ws rm) cc maxL ret e s m args below meth c s₁ → c.maxLocals = maxL → (∀ x ∈ c.exceptionTable.toList, False) → Pc args s →
      W p l e (headSpec ws rm).room s m args below meth c s.heap [] 0 0 (vx_MQ below Qc XC args s mc ms free) (entryFrame m args maxL)) : vx_Met l y ws rm Pc Qc XC mc ms free := by
  refine MetFree.of_bodyS (code := cc) (maxLocals := maxL) (ret := ret) hy ?_ ?_
  · intro args s m h hn
    obtain ⟨meth, c, h1, h2, h3, h4, h5, h6, -, -⟩ := Cond.code_spec hn (atoms_spec (ws := ws) h _ (by rw [hw]; exact List.mem_cons_self))
    exact ⟨meth, c, h1, h2, h3, h4, h5, h6⟩
  · intro p e s m args below meth c s₁ B hml hP _
    have hh0 : s₁.heap = s.heap := by rw [B.state]; rfl
    have ht : ∀ x ∈ c.exceptionTable.toList, False := by
      obtain ⟨meth9, c9, h1, h2, -, -, -, -, h7, -⟩ := Cond.code_spec B.named (atoms_spec (ws := ws) B.pre _ (by rw [hw]; exact List.mem_cons_self))
      cases Option.some.inj (h1.symm.trans B.method)
      cases Option.some.inj (h2.symm.trans (Stand.of_body B).code)
      intro x hx
      rw [Array.isEmpty_iff.mp h7] at hx
      cases hx
    obtain ⟨t, a1, o, b1, b2, b3⟩ := body p e s m args below meth c s₁ B hml ht hP s₁ hh0 (Stand.of_body B)
    exact ⟨t, o, a1, b1, b2, b3⟩
/-- the table of a body with handlers -/
theorem vx_table {p : Program} {x y : MethodName} {S : Spec} {cc bytes : ByteArray} {maxL maxL' : Nat} {ret ret' : Option FieldType} {e : Env} {s s₁ : State} {m : MethodId} {args : Array Value} {below : List Frame} {meth : Method} {c : Code} {hh : List (Nat × Nat × Nat × Nat)}
    (B : BodyLoose p l y S cc maxL ret e s m args below meth c s₁) (h : (Cond.codeWith y bytes maxL' ret' hh).before args s = true) : c.exceptionTable.toList = tableOf hh := by
  obtain ⟨m9, meth9, c9, hn9, h1, h2, -, -, h6, -⟩ := Cond.codeWith_spec h
  cases Option.some.inj (hn9.symm.trans B.named)
  cases Option.some.inj (h1.symm.trans B.method)
  cases Option.some.inj (h2.symm.trans (Stand.of_body B).code)
  rw [← h6, table_eq]
end Bodies
end VXA
/-! ===== END ===== -/
/-! ===== BEGIN a static call of a method with an exception table ===== -/
section VXS
variable {p : Program} {l : Launch} {e : Env} {R : Room} {s : State} {m : MethodId} {args : Array Value} {below : List Frame} {meth : Method} {c : Code} {T : State} {H : Heap} {locs : List Loc} {cells slots : Nat}
abbrev vx_CSW (R : Room) (s : State) (args : Array Value) (own : String) (index : Nat) (y : MethodName) (bytes : ByteArray) (maxL : Nat) (ret : Option FieldType) (hh : List (Nat × Nat × Nat × Nat)) (ws : List Cond) (rm : Room) (mc ms n : Nat) : Prop :=
  (rm.cells = mc ∧ rm.slots = ms ∧ rm.frames + 1 ≤ R.frames ∧ 8 + (maxL + 11) + rm.locals ≤ R.locals ∧ (∀ w ∈ ws, ∀ (a' : Array Value) (U : State), s.WarmedH U.vm → w.before a' U = true) ∧ Cond.codeWith y bytes maxL ret hh ∈ ws) ∧
  (Cond.codeWith y bytes maxL ret hh).before args s = true ∧ (Cond.initialized y.cls).before args s = true ∧ (y.cls ≠ "java/lang/invoke/MethodHandle" ∧ y.cls ≠ "java/lang/invoke/VarHandle") ∧
  (∀ sig, parseMethodDescriptor y.desc = some sig → n = sig.parameters.length) ∧ (Cond.methodLink own index y).before args s = true ∧ (Cond.static y).before args s = true
theorem vx_cwSW {own : String} {index maxL mc ms : Nat} {y : MethodName} {bytes : ByteArray} {ret : Option FieldType} {hh : List (Nat × Nat × Nat × Nat)} {Ts ws ws' : List Cond} {rm : Room} (n : Nat) (ht : ∀ w ∈ Ts, w.before args s = true) (hT : GoodIn Ts (va_wsS own index y ws)) (hw : ws = Cond.codeWith y bytes maxL ret hh :: ws') (hrc : rm.cells = mc) (hrs : rm.slots = ms)
    (hd : y.cls ≠ "java/lang/invoke/MethodHandle" ∧ y.cls ≠ "java/lang/invoke/VarHandle" ∧ (parseMethodDescriptor y.desc).map (fun d => d.parameters.length) = some n) (hR : rm.frames + 1 ≤ R.frames ∧ 8 + (maxL + 11) + rm.locals ≤ R.locals) :
    vx_CSW R s args own index y bytes maxL ret hh ws rm mc ms n := by
  have ok : ∀ w ∈ va_wsS own index y ws, w.before args s = true := fun w h => ht w (hT w h).1
  have hG : GoodIn Ts ws := fun w h => hT w (by unfold va_wsS; exact List.mem_append_right _ h)
  have hc : Cond.codeWith y bytes maxL ret hh ∈ ws := by rw [hw]; exact List.mem_cons_self
  refine ⟨⟨hrc, hrs, hR.1, hR.2, pay_in ht hG, hc⟩, ht _ (hG _ hc).1, ok _ (by simp [va_wsS]), ⟨hd.1, hd.2.1⟩, fun sig h => ?_, ok _ (by simp [va_wsS]), ok _ (by simp [va_wsS])⟩
  have h2 := hd.2.2
  rw [h] at h2
  exact (Option.some.inj h2).symm
theorem vx_callSW (X : Stand p l e R s m args below meth c T locs cells slots) (hexec : p.tables.exec = Jvm.exec) {own : String} {index : Nat} {y : MethodName} {bytes : ByteArray} {maxL : Nat} {ret : Option FieldType} {hh : List (Nat × Nat × Nat × Nat)}
    (hown : s.vm.findClass own = some m.cls) (hlink : (Cond.methodLink own index y).before args s = true) (hstat : (Cond.static y).before args s = true) (hinit : (Cond.initialized y.cls).before args s = true)
    (hcode : (Cond.codeWith y bytes maxL ret hh).before args s = true) (hy : y.cls ≠ "java/lang/invoke/MethodHandle" ∧ y.cls ≠ "java/lang/invoke/VarHandle")
    {W9 : Nat} {Pre : Pt → Array Value → Prop} {Post : Pt → Array Value → Option Value → Pt → Prop} (hK : Back l R p e below s args y 3 W9 Pre Post)
    {g : JFrame} (hg : g.method = m) (hsize : g.locals.size = c.maxLocals) {argsL rest : List Value} (hlen : ∀ sig, parseMethodDescriptor y.desc = some sig → argsL.length = sig.parameters.length)
    (hstack : g.stack = argsL.reverse ++ rest) (hW : 2 * g.monitorRoom + (rest.map fun v => v.category).sum ≤ W9) (hdg : decode c.code g.pc = .ok (.invokestatic index, 3))
    (hpre : ∀ vm₁, s.WarmedH vm₁ → Pre ⟨T.setVm vm₁, locs, cells, slots⟩ argsL.toArray) :
    ∃ (v : Option Value) (vm₁ : Vm) (B : Pt), s.WarmedH vm₁ ∧ Stand p l e R s m args below meth c B.U B.locs B.cells B.slots ∧ Post ⟨T.setVm vm₁, locs, cells, slots⟩ argsL.toArray v B ∧
      ∀ target, Steps p.tables e below (B.U.setTop { g with pc := g.pc + 3, stack := v.toList ++ rest }) target → Steps p.tables e below (T.setTop g) target := by
  obtain ⟨mk, methM, cM, hnamed, hmethM, -, -, -, -, -, -, hsigM⟩ := Cond.codeWith_spec hcode
  have hstatic : methM.isStatic = true := Cond.static_spec hnamed hmethM hstat
  obtain ⟨kP, hkP, -⟩ := className_of_methodNamed hnamed
  have hinitP : kP.init = .initialized := Cond.initialized_spec (findClass_of_methodNamed hnamed) hkP hinit
  obtain ⟨vm₁, X₁, hstep₁⟩ := X.invokestatic hexec hown hlink hnamed hmethM hstatic hkP hinitP hy (g := g) hg (argsL := argsL) (rest := rest) (hlen _ hsigM) hstack hdg
  obtain ⟨v, B, X', hpost, hsteps⟩ := hK m meth c ⟨T.setVm vm₁, locs, cells, slots⟩ { g with stack := rest } (.invokestatic index) mk argsL.toArray X₁ hg hsize hdg hW (X₁.named hnamed) (hpre vm₁ X₁.warmed)
  exact ⟨v, vm₁, B, X₁.warmed, X', hpost, fun target h => hstep₁ _ fun acts => by rw [doInvoke_state]; exact hsteps.trans h⟩
theorem vx_runSW {y : MethodName} {bytes cc : ByteArray} {maxL nL mc ms n index : Nat} {ret : Option FieldType} {hh : List (Nat × Nat × Nat × Nat)} {ws : List Cond} {rm : Room} {Pc : Array Value → State → Prop} {Qc : Array Value → State → Outcome → State → Prop} {free : Addr → Prop} {Ts : List Cond} {own : String} {As rest : List Value} {g : JFrame}
    (S : CallFix p m c cc nL s args Ts own) (hM : Met l y ws rm Pc Qc mc ms free) (cw : vx_CSW R s args own index y bytes maxL ret hh ws rm mc ms n) (hp : PreS s H Pc As)
    (hg : g.method = m) (hn : As.length = n) (hsize : g.locals.size = nL) (hstack : g.stack = As.reverse ++ rest) (hW : 2 * g.monitorRoom + (rest.map fun v => v.category).sum ≤ 8) (hdg : decode cc g.pc = .ok (.invokestatic index, 3)) (hf : cells + mc ≤ R.cells ∧ slots + ms ≤ R.slots) :
    va_Run p l e R s m args below meth c H locs cells slots mc ms g rest (Qc As.toArray) (free) := by
  obtain ⟨⟨hrc, hrs, hfr, hlo, hws, hcw⟩, hcode, hini, hy, hlen, hl, hstt⟩ := cw
  have hK : Back l R p e below s args y 3 8 (PreOf R mc ms Pc) (PostOf Qc mc ms free) := va_backW (hh := hh) (bytes := bytes) (maxL := maxL) (ret := ret) hM hp.1 hrc hrs hfr hlo hws hcw (fun a' U hW => word_at hW (Or.inl (by first | rfl | simp [Cond.onTables, Cond.keeps, Cond.steady])) hini)
  obtain ⟨hx, hb, hml, ho, -⟩ := S
  intro T hT X
  obtain ⟨v, vm₁, ⟨U', l2, c2, s2⟩, hW₁, X', ⟨g', mk, t, L, e1, e2, hq, h1, hL, h2, h3⟩, st⟩ := vx_callSW X hx (hh := hh) (bytes := bytes) (maxL := maxL) (ret := ret) ho hl hstt hini hcode hy hK hg (hsize.trans hml.symm) (argsL := As) (rest := rest) (fun sig h => hn.trans (hlen sig h)) hstack hW (by rw [hb]; exact hdg)
    (fun vm₁ hW₁ => ⟨hf.1, hf.2, hp.2 (T.setVm vm₁) hT hW₁⟩)
  dsimp only [Pt.U, Pt.locs, Pt.cells, Pt.slots] at X' e1 e2 h1 h2 h3 st
  subst h1; subst h2; subst h3
  exact ⟨v, (T.setVm vm₁).calling g' mk As.toArray, t, U', L, hT, X', hL, e1, e2, hq, st⟩
/-- not caught here, past rows that name other classes: it goes on to the caller -/
theorem vx_outP {p : Program} {l : Launch} {e : Env} {R : Room} {s : State} {m : MethodId} {args : Array Value} {below : List Frame} {meth : Method} {c : Code} {H : Heap} {locs : List Loc} {cells slots : Nat} {free : Addr → Prop} {ls : Array Slot} {rest : List Value} {Qc : Array Value → State → Outcome → State → Prop} {XC : String → State → State → Prop}
    {pc : Nat} {own E : String} {ce : Cell} {q : Addr} {mc ms : Nat} (hown : s.vm.findClass own = some m.cls) (hlocks : meth.locks = false)
    (hpass : ∀ z ∈ c.exceptionTable.toList, covers z pc = false ∨ (z.catchType ≠ 0 ∧ ∃ nm : String, (Cond.classLink own z.catchType nm).before args s = true ∧ va_Nc E nm s)) (hcell : H[q]? = some ce) (hv : ce.vm = .none) (hcl : s.vm.findClass E = some ce.cls)
    (hx : ∀ t : State, t.heap = H → s.vm.Alike t.vm → XC E s t) (hf : ∀ z ∈ locs, free z.base) (hc : cells ≤ mc) (hs : slots ≤ ms) :
    vx_W p l e R s m args below meth c H locs cells slots (vx_MQ below Qc XC args s mc ms free) (F0 m pc ls rest) q := by
  intro T hT X
  have hpl : e.platform.magicAccessors = ({} : Platform).magicAccessors := by rw [X.admits.platform]
  obtain ⟨vm', hW', X', st⟩ := X.outThrough hlocks q (g := F0 m pc ls rest) rfl rfl rfl (cell := ce) (by rw [hT]; exact hcell) (by rw [hv]; rfl)
    (by obtain ⟨k9, h9, -⟩ := Vm.findClass_spec hcl; exact ⟨k9, h9⟩) (fun z hz => by
      rcases hpass z hz with h | ⟨hz0, nm, hl1, hn1⟩
      · exact Or.inl h
      · obtain ⟨c6, hc6, hcl6⟩ := Cond.classLink_spec hown hl1 e.platform hpl
        obtain ⟨a8, b8, h1, h2, h3⟩ := hn1
        cases Option.some.inj (h1.symm.trans hcl)
        cases Option.some.inj (h2.symm.trans hc6)
        exact Or.inr ⟨hz0, _, hcl6, h3⟩)
  obtain ⟨g₀, hfr⟩ := X'.frames_eq
  have hcell9 : ((T.setVm vm').setFrames (.throwing q :: below)).heap[q]? = some ce := by
    show T.heap[q]? = some ce
    rw [hT]; exact hcell
  have hend : Ended ((T.setVm vm').setFrames (.throwing q :: below)) below (.threw q) := State.frames_setFrames _ (State.cur_lt_of_frames hfr)
  refine ⟨(T.setVm vm').setFrames (.throwing q :: below), ?_, .threw q, X'.here.running, hend, Or.inr ⟨q, rfl, E, ce, locs, hx _ hT (X'.ends _).1.alike, hcell9, hv, hcl, (X'.ends _).1, (X'.ends _).2.mono hc hs, hf⟩⟩
  rw [X.pushThrowing_eq]
  exact st
/-- a thing of a world lies in the heap -/
theorem vx_lt {D : va_G} {cl : List vw_C} {ws : va_W} {H1 : Heap} (h : va_P D cl ws H1) {k : Nat} {q : Nat × va_E} (hk : ws[k]? = some q) : q.1 < H1.size := (h k q hk).lt
end VXS
/-! ===== END ===== -/
/-! ===== BEGIN methods with a table of their own: called by a name, returning or throwing ===== -/
section VXH
/-! vx_backW, vx_callVX, vx_callSX, vx_callVW, vx_runVW, vx_runVX, vx_runSX, vx_ofWH follow the same proofs as their sisters above (Free/Laws.lean, Shelf42/LK1.lean); vx_outP calls Shelf42/NT130.lean (outThrough). -/
section
variable {l : Launch} {R : Room} {p : Program} {e : Env} {below : List Frame} {s : State} {sargs : Array Value} {y : MethodName} {len W9 : Nat}
theorem vx_backW {ws : List Cond} {rm : Room} {Pc : Array Value → State → Prop} {Qc : Array Value → State → Outcome → State → Prop} {XC : String → State → State → Prop} {mc ms : Nat} {free : Addr → Prop} {bytes : ByteArray} {maxL : Nat} {ret : Option FieldType} {hh : List (Nat × Nat × Nat × Nat)}
    (hM : vx_Met l y ws rm Pc Qc XC mc ms free) (hblind : FrameBlind Pc) (hrc : rm.cells = mc) (hrs : rm.slots = ms)
    (hframes : rm.frames + 1 ≤ R.frames) (hlocals : W9 + (maxL + 11) + rm.locals ≤ R.locals)
    (hws : ∀ w ∈ ws, ∀ a' U, s.WarmedH U.vm → w.before a' U = true) (hcode : Cond.codeWith y bytes maxL ret hh ∈ ws) (hinit : ∀ a' U, s.WarmedH U.vm → (Cond.initialized y.cls).before a' U = true) :
    vx_Back l R p e below s sargs y len W9 (PreOf R mc ms Pc) (PostOf Qc mc ms free) (vx_Post XC mc ms free) := by
  intro m meth c A g ig mk a X hg hsize hdg hW hn hp
  have h1 : (headSpec ws rm).pre.before a A.U = true := atoms_intro fun w hw => hws w hw _ _ X.warmed
  have h2 : (Cond.codeWith y bytes maxL ret hh).before a A.U = true := hws _ hcode _ _ X.warmed
  have h3 : (Cond.initialized y.cls).before a A.U = true := hinit _ _ X.warmed
  have h4 : A.cells + (headSpec ws rm).room.cells ≤ R.cells := by rw [show (headSpec ws rm).room.cells = mc from hrc]; exact hp.1
  have h5 : A.slots + (headSpec ws rm).room.slots ≤ R.slots := by rw [show (headSpec ws rm).room.slots = ms from hrs]; exact hp.2.1
  have hPc : Pc a (A.U.calling g mk a) := hblind _ _ _ _ hp.2.2
  obtain ⟨U, Ls, c0, s0⟩ := A
  dsimp only [Pt.U, Pt.locs, Pt.cells, Pt.slots] at h1 h2 h3 h4 h5 X hn hPc ⊢
  obtain ⟨m9, methY, cY, hn9, hmY, hcY, -, hlY, -⟩ := Cond.codeWith_spec h2
  cases Option.some.inj (hn9.symm.trans hn)
  obtain ⟨kY, hkY, -⟩ := className_of_methodNamed hn
  have hinitY : kY.init = .initialized := Cond.initialized_spec (findClass_of_methodNamed hn) hkY h3
  have h : At U g.method c below := by rw [hg]; exact X.here
  have hlocals9 : W9 + (maxL + 11) + (headSpec ws rm).room.locals ≤ R.locals := hlocals
  have happ : (headSpec ws rm).appliesLoose y e.platform (U.calling g mk a) = true :=
    Spec.appliesLoose_calling (g := g) h hdg hn hkY hinitY
      (X.room_calling (g := g) (R' := (headSpec ws rm).room) hsize hmY hcY hframes (by rw [hlY]; omega) h4 h5) h1
  obtain ⟨mid, hmid⟩ := h.above
  have hfr : (U.setTop g).frames = (.java g :: mid) ++ below := by rw [State.frames_setTop' g h.top, hmid]; rfl
  obtain ⟨o, s₂, hsteps, -, hend, hq⟩ := Steps.callFree hM p X.admits X.cas X.clock (acts := []) hfr happ hPc trivial
  have hq' : vx_Q Qc XC mc ms free a (U.calling g mk a) o s₂ := hq
  rw [State.frames_setTop' g h.top] at hend
  obtain ⟨g₀, hg0⟩ := Option.isSome_iff_exists.mp h.top
  obtain ⟨r, hr⟩ := State.topJava?_eq_some.mp hg0
  have hr' : (({ U with heap := s₂.heap, slotsUsed := s₂.slotsUsed } : State).setVm s₂.vm).frames = .java g₀ :: r := hr
  rcases hq' with ⟨hqc, L, hfe, hL⟩ | ⟨q, rfl, E, ce, L, hx, hce, hcv, hcl, hW₂, hsm, hL⟩
  · obtain ⟨⟨v, rfl⟩, hW₂, e2, q2, q3, q4, q5, q6⟩ := id hfe
    have e3 : s₂ = ({ (U.calling g mk a).setFrames s₂.frames with heap := s₂.heap, slotsUsed := s₂.slotsUsed } : State).setVm s₂.vm := by
      have : s₂ = ({ s₂ with vm := (U.calling g mk a).vm } : State).setVm s₂.vm := rfl
      rw [e2] at this
      exact this
    obtain ⟨c₂, i₂, len₂, hc₂, hd₂, hf₂⟩ := hend
    have hW' : U.WarmedH s₂.vm := hW₂
    have hcc : c₂ = c := by
      have h1 : s₂.code? g.method = U.code? g.method := by
        rw [State.code?_eq, State.code?_eq, hW'.alike.method?]
      exact Option.some.inj (hc₂.symm.trans (h1.trans h.code))
    subst hcc
    have hlen : len₂ = len := by rw [hdg] at hd₂; cases hd₂; rfl
    subst hlen
    have hs₂ : s₂ = (({ U with heap := s₂.heap, slotsUsed := s₂.slotsUsed } : State).setVm s₂.vm).setTop { g with pc := g.pc + len₂, stack := v.toList ++ g.stack } := by
      refine e3.trans ?_
      rw [hf₂, State.calling_eq h.top, State.setFrames_setFrames, State.setTop_of_frames _ hr', hr]
      rfl
    have hsame : U.sameButNew ({ U with heap := s₂.heap, slotsUsed := s₂.slotsUsed } : State) L mc ms := by
      refine ⟨?_, q2, q3, q4, q5, q6⟩
      obtain ⟨t, ht, -⟩ := State.frames_cons hr
      show ({ U with heap := s₂.heap, slotsUsed := s₂.slotsUsed } : State) = { U.setFrames U.frames with heap := s₂.heap, slotsUsed := s₂.slotsUsed }
      rw [State.setFrames_self ht]
    subst hg
    refine Or.inl ⟨v, ⟨(({ U with heap := s₂.heap, slotsUsed := s₂.slotsUsed } : State).setVm s₂.vm), Ls ++ L, c0 + mc, s0 + ms⟩,
      ⟨X.admits, X.cas, X.clock, X.frames, X.room, X.hears, X.method, X.code, (X.here.setHeapUsed s₂.heap s₂.slotsUsed).setVm hW'.alike, X.tail, State.WarmedH.trans X.warmed hW', X.limits, X.bytes, X.same.trans (hsame.setVm s.vm)⟩,
      ⟨g, mk, s₂, L, rfl, rfl, hqc, rfl, hL, rfl, rfl⟩, ?_⟩
    show Steps p.tables e below _ ((({ U with heap := s₂.heap, slotsUsed := s₂.slotsUsed } : State).setVm s₂.vm).setTop { g with pc := g.pc + len₂, stack := v.toList ++ g.stack })
    rw [← hs₂]
    exact hsteps
  · obtain ⟨e2, q2, q3, q4, q5, q6⟩ := id hsm
    have e3 : s₂ = ({ (U.calling g mk a).setFrames s₂.frames with heap := s₂.heap, slotsUsed := s₂.slotsUsed } : State).setVm s₂.vm := by
      have : s₂ = ({ s₂ with vm := (U.calling g mk a).vm } : State).setVm s₂.vm := rfl
      rw [e2] at this
      exact this
    have hf₂ : s₂.frames = .throwing q :: .java g :: U.frames.tail := hend
    have hW' : U.WarmedH s₂.vm := hW₂
    have hs₂ : s₂ = ((({ U with heap := s₂.heap, slotsUsed := s₂.slotsUsed } : State).setVm s₂.vm).setTop g).pushFrame (.throwing q) := by
      refine e3.trans ?_
      rw [hf₂, State.calling_eq h.top, State.setFrames_setFrames, State.pushFrame, State.frames_setTop _ hr', State.setTop_of_frames _ hr', State.setFrames_setFrames, hr]
      rfl
    have hsame : U.sameButNew ({ U with heap := s₂.heap, slotsUsed := s₂.slotsUsed } : State) L mc ms := by
      refine ⟨?_, q2, q3, q4, q5, q6⟩
      obtain ⟨t, ht, -⟩ := State.frames_cons hr
      show ({ U with heap := s₂.heap, slotsUsed := s₂.slotsUsed } : State) = { U.setFrames U.frames with heap := s₂.heap, slotsUsed := s₂.slotsUsed }
      rw [State.setFrames_self ht]
    subst hg
    refine Or.inr ⟨q, ⟨(({ U with heap := s₂.heap, slotsUsed := s₂.slotsUsed } : State).setVm s₂.vm), Ls ++ L, c0 + mc, s0 + ms⟩,
      ⟨X.admits, X.cas, X.clock, X.frames, X.room, X.hears, X.method, X.code, (X.here.setHeapUsed s₂.heap s₂.slotsUsed).setVm hW'.alike, X.tail, State.WarmedH.trans X.warmed hW', X.limits, X.bytes, X.same.trans (hsame.setVm s.vm)⟩,
      ⟨g, mk, s₂, L, E, ce, rfl, rfl, hx, hce, hcv, hcl, rfl, hL, rfl, rfl⟩, ?_⟩
    show Steps p.tables e below _ (((({ U with heap := s₂.heap, slotsUsed := s₂.slotsUsed } : State).setVm s₂.vm).setTop g).pushFrame (.throwing q))
    rw [← hs₂]
    exact hsteps
end
variable {p : Program} {l : Launch} {e : Env} {R : Room} {s : State} {m : MethodId} {args : Array Value} {below : List Frame} {meth : Method} {c : Code} {T : State} {H : Heap} {locs : List Loc} {cells slots : Nat}
theorem vx_callVX (X : Stand p l e R s m args below meth c T locs cells slots) (hexec : p.tables.exec = Jvm.exec) {own C : String} {index : Nat} {y : MethodName} {bytes : ByteArray} {maxL : Nat} {ret : Option FieldType} {hh : List (Nat × Nat × Nat × Nat)}
    (hown : s.vm.findClass own = some m.cls) (hlink : (Cond.methodLink own index y).before args s = true) (hinst : (Cond.instanceMethod y).before args s = true) (hsel : (Cond.selects C y y).before args s = true)
    (hcode : (Cond.codeWith y bytes maxL ret hh).before args s = true) (hy : y.cls ≠ "java/lang/invoke/MethodHandle" ∧ y.cls ≠ "java/lang/invoke/VarHandle")
    {W9 : Nat} {Pre : Pt → Array Value → Prop} {Post : Pt → Array Value → Option Value → Pt → Prop} {PostX : Pt → Array Value → Addr → Pt → Prop} (hK : vx_Back l R p e below s args y 3 W9 Pre Post PostX)
    {b : Addr} {cellB : Cell} (hcell : T.heap[b]? = some cellB) (hobj : cellB.vm.isStatics = false) (hcls : s.vm.findClass C = some cellB.cls)
    {g : JFrame} (hg : g.method = m) (hsize : g.locals.size = c.maxLocals) {argsL rest : List Value} (hlen : ∀ sig, parseMethodDescriptor y.desc = some sig → argsL.length = sig.parameters.length)
    (hstack : g.stack = argsL.reverse ++ .ref b :: rest) (hW : 2 * g.monitorRoom + (rest.map fun v => v.category).sum ≤ W9) (hdg : decode c.code g.pc = .ok (.invokevirtual index, 3))
    (hpre : ∀ vm₁, s.WarmedH vm₁ → Pre ⟨T.setVm vm₁, locs, cells, slots⟩ (Value.ref b :: argsL).toArray) :
    (∃ (v : Option Value) (vm₁ : Vm) (B : Pt), s.WarmedH vm₁ ∧ Stand p l e R s m args below meth c B.U B.locs B.cells B.slots ∧ Post ⟨T.setVm vm₁, locs, cells, slots⟩ (Value.ref b :: argsL).toArray v B ∧
      ∀ target, Steps p.tables e below (B.U.setTop { g with pc := g.pc + 3, stack := v.toList ++ rest }) target → Steps p.tables e below (T.setTop g) target) ∨
    (∃ (q : Addr) (vm₁ : Vm) (B : Pt), s.WarmedH vm₁ ∧ Stand p l e R s m args below meth c B.U B.locs B.cells B.slots ∧ PostX ⟨T.setVm vm₁, locs, cells, slots⟩ (Value.ref b :: argsL).toArray q B ∧
      Steps p.tables e below (T.setTop g) ((B.U.setTop { g with stack := rest }).pushFrame (.throwing q))) := by
  obtain ⟨mk, methM, hnamed, hmethM, hstM, habM⟩ := Cond.instanceMethod_spec hinst
  obtain ⟨m8, methM', cM, hn8, hmethM', -, -, -, -, -, -, hsigM⟩ := Cond.codeWith_spec hcode
  cases Option.some.inj (hn8.symm.trans hnamed)
  cases hmethM.symm.trans hmethM'
  obtain ⟨c2, r2, m2, q1, q2, q3, q4, kP, hkP, hkPi⟩ := Cond.selects_spec hsel
  cases hcls.symm.trans q1
  cases (State.methodFound?_of_named hnamed hy).symm.trans q2
  cases hnamed.symm.trans q3
  have hselP : selectMethod e.platform s.vm cellB.cls mk = .method mk := by rw [Launch.admits_selectMethod X.admits]; exact q4
  obtain ⟨vm₁, X₁, hstep₁⟩ := X.invokevirtual hexec hown hlink hnamed hmethM hstM hkP hkPi hy (a := b) (cell := cellB) hcell
    (fun z h => by rw [h] at hobj; cases hobj) hselP hmethM habM hkP hkPi (g := g) hg (argsL := argsL) (rest := rest) (hlen _ hsigM) hstack hdg
  rcases hK m meth c ⟨T.setVm vm₁, locs, cells, slots⟩ { g with stack := rest } (.invokevirtual index) mk (Value.ref b :: argsL).toArray X₁ hg hsize hdg hW (X₁.named hnamed) (hpre vm₁ X₁.warmed) with ⟨v, B, X', hpost, hsteps⟩ | ⟨q, B, X', hpost, hsteps⟩
  · exact Or.inl ⟨v, vm₁, B, X₁.warmed, X', hpost, fun target h => hstep₁ _ fun acts => by rw [doInvoke_state]; exact hsteps.trans h⟩
  · exact Or.inr ⟨q, vm₁, B, X₁.warmed, X', hpost, hstep₁ _ fun acts => by rw [doInvoke_state]; exact hsteps⟩
theorem vx_callSX (X : Stand p l e R s m args below meth c T locs cells slots) (hexec : p.tables.exec = Jvm.exec) {own : String} {index : Nat} {y : MethodName} {bytes : ByteArray} {maxL : Nat} {ret : Option FieldType} {hh : List (Nat × Nat × Nat × Nat)}
    (hown : s.vm.findClass own = some m.cls) (hlink : (Cond.methodLink own index y).before args s = true) (hstat : (Cond.static y).before args s = true) (hinit : (Cond.initialized y.cls).before args s = true)
    (hcode : (Cond.codeWith y bytes maxL ret hh).before args s = true) (hy : y.cls ≠ "java/lang/invoke/MethodHandle" ∧ y.cls ≠ "java/lang/invoke/VarHandle")
    {W9 : Nat} {Pre : Pt → Array Value → Prop} {Post : Pt → Array Value → Option Value → Pt → Prop} {PostX : Pt → Array Value → Addr → Pt → Prop} (hK : vx_Back l R p e below s args y 3 W9 Pre Post PostX)
    {g : JFrame} (hg : g.method = m) (hsize : g.locals.size = c.maxLocals) {argsL rest : List Value} (hlen : ∀ sig, parseMethodDescriptor y.desc = some sig → argsL.length = sig.parameters.length)
    (hstack : g.stack = argsL.reverse ++ rest) (hW : 2 * g.monitorRoom + (rest.map fun v => v.category).sum ≤ W9) (hdg : decode c.code g.pc = .ok (.invokestatic index, 3))
    (hpre : ∀ vm₁, s.WarmedH vm₁ → Pre ⟨T.setVm vm₁, locs, cells, slots⟩ argsL.toArray) :
    (∃ (v : Option Value) (vm₁ : Vm) (B : Pt), s.WarmedH vm₁ ∧ Stand p l e R s m args below meth c B.U B.locs B.cells B.slots ∧ Post ⟨T.setVm vm₁, locs, cells, slots⟩ argsL.toArray v B ∧
      ∀ target, Steps p.tables e below (B.U.setTop { g with pc := g.pc + 3, stack := v.toList ++ rest }) target → Steps p.tables e below (T.setTop g) target) ∨
    (∃ (q : Addr) (vm₁ : Vm) (B : Pt), s.WarmedH vm₁ ∧ Stand p l e R s m args below meth c B.U B.locs B.cells B.slots ∧ PostX ⟨T.setVm vm₁, locs, cells, slots⟩ argsL.toArray q B ∧
      Steps p.tables e below (T.setTop g) ((B.U.setTop { g with stack := rest }).pushFrame (.throwing q))) := by
  obtain ⟨mk, methM, cM, hnamed, hmethM, -, -, -, -, -, -, hsigM⟩ := Cond.codeWith_spec hcode
  have hstatic : methM.isStatic = true := Cond.static_spec hnamed hmethM hstat
  obtain ⟨kP, hkP, -⟩ := className_of_methodNamed hnamed
  have hinitP : kP.init = .initialized := Cond.initialized_spec (findClass_of_methodNamed hnamed) hkP hinit
  obtain ⟨vm₁, X₁, hstep₁⟩ := X.invokestatic hexec hown hlink hnamed hmethM hstatic hkP hinitP hy (g := g) hg (argsL := argsL) (rest := rest) (hlen _ hsigM) hstack hdg
  rcases hK m meth c ⟨T.setVm vm₁, locs, cells, slots⟩ { g with stack := rest } (.invokestatic index) mk argsL.toArray X₁ hg hsize hdg hW (X₁.named hnamed) (hpre vm₁ X₁.warmed) with ⟨v, B, X', hpost, hsteps⟩ | ⟨q, B, X', hpost, hsteps⟩
  · exact Or.inl ⟨v, vm₁, B, X₁.warmed, X', hpost, fun target h => hstep₁ _ fun acts => by rw [doInvoke_state]; exact hsteps.trans h⟩
  · exact Or.inr ⟨q, vm₁, B, X₁.warmed, X', hpost, hstep₁ _ fun acts => by rw [doInvoke_state]; exact hsteps⟩
theorem vx_callVW (X : Stand p l e R s m args below meth c T locs cells slots) (hexec : p.tables.exec = Jvm.exec) {own C : String} {index : Nat} {y : MethodName} {bytes : ByteArray} {maxL : Nat} {ret : Option FieldType} {hh : List (Nat × Nat × Nat × Nat)}
    (hown : s.vm.findClass own = some m.cls) (hlink : (Cond.methodLink own index y).before args s = true) (hinst : (Cond.instanceMethod y).before args s = true) (hsel : (Cond.selects C y y).before args s = true)
    (hcode : (Cond.codeWith y bytes maxL ret hh).before args s = true) (hy : y.cls ≠ "java/lang/invoke/MethodHandle" ∧ y.cls ≠ "java/lang/invoke/VarHandle")
    {W9 : Nat} {Pre : Pt → Array Value → Prop} {Post : Pt → Array Value → Option Value → Pt → Prop} (hK : Back l R p e below s args y 3 W9 Pre Post)
    {b : Addr} {cellB : Cell} (hcell : T.heap[b]? = some cellB) (hobj : cellB.vm.isStatics = false) (hcls : s.vm.findClass C = some cellB.cls)
    {g : JFrame} (hg : g.method = m) (hsize : g.locals.size = c.maxLocals) {argsL rest : List Value} (hlen : ∀ sig, parseMethodDescriptor y.desc = some sig → argsL.length = sig.parameters.length)
    (hstack : g.stack = argsL.reverse ++ .ref b :: rest) (hW : 2 * g.monitorRoom + (rest.map fun v => v.category).sum ≤ W9) (hdg : decode c.code g.pc = .ok (.invokevirtual index, 3))
    (hpre : ∀ vm₁, s.WarmedH vm₁ → Pre ⟨T.setVm vm₁, locs, cells, slots⟩ (Value.ref b :: argsL).toArray) :
    ∃ (v : Option Value) (vm₁ : Vm) (B : Pt), s.WarmedH vm₁ ∧ Stand p l e R s m args below meth c B.U B.locs B.cells B.slots ∧ Post ⟨T.setVm vm₁, locs, cells, slots⟩ (Value.ref b :: argsL).toArray v B ∧
      ∀ target, Steps p.tables e below (B.U.setTop { g with pc := g.pc + 3, stack := v.toList ++ rest }) target → Steps p.tables e below (T.setTop g) target := by
  obtain ⟨mk, methM, hnamed, hmethM, hstM, habM⟩ := Cond.instanceMethod_spec hinst
  obtain ⟨m8, methM', cM, hn8, hmethM', -, -, -, -, -, -, hsigM⟩ := Cond.codeWith_spec hcode
  cases Option.some.inj (hn8.symm.trans hnamed)
  cases hmethM.symm.trans hmethM'
  obtain ⟨c2, r2, m2, q1, q2, q3, q4, kP, hkP, hkPi⟩ := Cond.selects_spec hsel
  cases hcls.symm.trans q1
  cases (State.methodFound?_of_named hnamed hy).symm.trans q2
  cases hnamed.symm.trans q3
  have hselP : selectMethod e.platform s.vm cellB.cls mk = .method mk := by rw [Launch.admits_selectMethod X.admits]; exact q4
  obtain ⟨vm₁, X₁, hstep₁⟩ := X.invokevirtual hexec hown hlink hnamed hmethM hstM hkP hkPi hy (a := b) (cell := cellB) hcell
    (fun z h => by rw [h] at hobj; cases hobj) hselP hmethM habM hkP hkPi (g := g) hg (argsL := argsL) (rest := rest) (hlen _ hsigM) hstack hdg
  obtain ⟨v, B, X', hpost, hsteps⟩ := hK m meth c ⟨T.setVm vm₁, locs, cells, slots⟩ { g with stack := rest } (.invokevirtual index) mk (Value.ref b :: argsL).toArray X₁ hg hsize hdg hW (X₁.named hnamed) (hpre vm₁ X₁.warmed)
  exact ⟨v, vm₁, B, X₁.warmed, X', hpost, fun target h => hstep₁ _ fun acts => by rw [doInvoke_state]; exact hsteps.trans h⟩
abbrev vx_CVW (R : Room) (s : State) (args : Array Value) (own C : String) (index : Nat) (y : MethodName) (bytes : ByteArray) (maxL : Nat) (ret : Option FieldType) (hh : List (Nat × Nat × Nat × Nat)) (ws : List Cond) (rm : Room) (mc ms n : Nat) : Prop :=
  (rm.cells = mc ∧ rm.slots = ms ∧ rm.frames + 1 ≤ R.frames ∧ 8 + (maxL + 11) + rm.locals ≤ R.locals ∧ (∀ w ∈ ws, ∀ (a' : Array Value) (U : State), s.WarmedH U.vm → w.before a' U = true) ∧ Cond.codeWith y bytes maxL ret hh ∈ ws) ∧
  (Cond.codeWith y bytes maxL ret hh).before args s = true ∧ (Cond.initialized y.cls).before args s = true ∧ (y.cls ≠ "java/lang/invoke/MethodHandle" ∧ y.cls ≠ "java/lang/invoke/VarHandle") ∧
  (∀ sig, parseMethodDescriptor y.desc = some sig → n = sig.parameters.length) ∧ (Cond.methodLink own index y).before args s = true ∧ (Cond.instanceMethod y).before args s = true ∧ (Cond.selects C y y).before args s = true
theorem vx_cwVW {own C : String} {index maxL mc ms : Nat} {y : MethodName} {bytes : ByteArray} {ret : Option FieldType} {hh : List (Nat × Nat × Nat × Nat)} {Ts ws ws' : List Cond} {rm : Room} (n : Nat) (ht : ∀ w ∈ Ts, w.before args s = true) (hT : GoodIn Ts (wsV own index C y ws)) (hw : ws = Cond.codeWith y bytes maxL ret hh :: ws') (hrc : rm.cells = mc) (hrs : rm.slots = ms)
    (hd : y.cls = C ∧ y.cls ≠ "java/lang/invoke/MethodHandle" ∧ y.cls ≠ "java/lang/invoke/VarHandle" ∧ (parseMethodDescriptor y.desc).map (fun d => d.parameters.length) = some n) (hR : rm.frames + 1 ≤ R.frames ∧ 8 + (maxL + 11) + rm.locals ≤ R.locals) :
    vx_CVW R s args own C index y bytes maxL ret hh ws rm mc ms n := by
  obtain ⟨hC, hd⟩ := hd
  subst hC
  have ok : ∀ w ∈ wsV own index y.cls y ws, w.before args s = true := fun w h => ht w (hT w h).1
  have hG : GoodIn Ts ws := fun w h => hT w (by unfold wsV; exact List.mem_append_right _ h)
  have hc : Cond.codeWith y bytes maxL ret hh ∈ ws := by rw [hw]; exact List.mem_cons_self
  refine ⟨⟨hrc, hrs, hR.1, hR.2, pay_in ht hG, hc⟩, ht _ (hG _ hc).1, ok _ (by simp [wsV]), ⟨hd.1, hd.2.1⟩, fun sig h => ?_, ok _ (by simp [wsV]), ok _ (by simp [wsV]), ok _ (by simp [wsV])⟩
  have h2 := hd.2.2
  rw [h] at h2
  exact (Option.some.inj h2).symm
theorem vx_runVW {y : MethodName} {bytes cc : ByteArray} {maxL nL mc ms n index : Nat} {ret : Option FieldType} {hh : List (Nat × Nat × Nat × Nat)} {ws : List Cond} {rm : Room} {Pc : Array Value → State → Prop} {Qc : Array Value → State → Outcome → State → Prop} {free : Addr → Prop} {Ts : List Cond} {own C : String} {b : Addr} {As rest : List Value} {g : JFrame}
    (S : CallFix p m c cc nL s args Ts own) (hM : Met l y ws rm Pc Qc mc ms free) (cw : vx_CVW R s args own C index y bytes maxL ret hh ws rm mc ms n) (hp : PreV s H C b Pc As)
    (hg : g.method = m) (hn : As.length = n) (hsize : g.locals.size = nL) (hstack : g.stack = As.reverse ++ .ref b :: rest) (hW : 2 * g.monitorRoom + (rest.map fun v => v.category).sum ≤ 8) (hdg : decode cc g.pc = .ok (.invokevirtual index, 3)) (hf : cells + mc ≤ R.cells ∧ slots + ms ≤ R.slots) :
    va_Run p l e R s m args below meth c H locs cells slots mc ms g rest (Qc (Value.ref b :: As).toArray) free := by
  obtain ⟨⟨hrc, hrs, hfr, hlo, hws, hcw⟩, hcode, hini, hy, hlen, hl, hin, hse⟩ := cw
  have hK : Back l R p e below s args y 3 8 (PreOf R mc ms Pc) (PostOf Qc mc ms free) := va_backW (hh := hh) (bytes := bytes) (maxL := maxL) (ret := ret) hM hp.1 hrc hrs hfr hlo hws hcw (fun a' U hW => word_at hW (Or.inl (by first | rfl | simp [Cond.onTables, Cond.keeps, Cond.steady])) hini)
  obtain ⟨hx, hb, hml, ho, -⟩ := S
  obtain ⟨-, ⟨cellB, hcB, hoB, hclB⟩, hPc⟩ := hp
  intro T hT X
  obtain ⟨v, vm₁, ⟨U', l2, c2, s2⟩, hW₁, X', ⟨g', mk, t, L, e1, e2, hq, h1, hL, h2, h3⟩, st⟩ := vx_callVW X hx (C := C) (hh := hh) (bytes := bytes) (maxL := maxL) (ret := ret) ho hl hin hse hcode hy hK (by rw [hT]; exact hcB) hoB hclB hg (hsize.trans hml.symm) (argsL := As) (rest := rest) (fun sig h => hn.trans (hlen sig h)) hstack hW (by rw [hb]; exact hdg)
    (fun vm₁ hW₁ => ⟨hf.1, hf.2, hPc (T.setVm vm₁) hT hW₁⟩)
  dsimp only [Pt.U, Pt.locs, Pt.cells, Pt.slots] at X' e1 e2 h1 h2 h3 st
  subst h1; subst h2; subst h3
  exact ⟨v, (T.setVm vm₁).calling g' mk (Value.ref b :: As).toArray, t, U', L, hT, X', hL, e1, e2, hq, st⟩
section
variable {y : MethodName} {bytes cc : ByteArray} {maxL nL mc ms n index : Nat} {ret : Option FieldType} {ws : List Cond} {rm : Room} {Pc : Array Value → State → Prop} {Qc : Array Value → State → Outcome → State → Prop} {XC : String → State → State → Prop} {free : Addr → Prop} {Ts : List Cond} {own C : String} {b : Addr} {As rest : List Value} {g : JFrame}
theorem vx_runVX {hh : List (Nat × Nat × Nat × Nat)} (S : CallFix p m c cc nL s args Ts own) (hM : vx_Met l y ws rm Pc Qc XC mc ms free) (cw : vx_CVW R s args own C index y bytes maxL ret hh ws rm mc ms n) (hp : PreV s H C b Pc As)
    (hg : g.method = m) (hn : As.length = n) (hsize : g.locals.size = nL) (hstack : g.stack = As.reverse ++ .ref b :: rest) (hW : 2 * g.monitorRoom + (rest.map fun v => v.category).sum ≤ 8) (hdg : decode cc g.pc = .ok (.invokevirtual index, 3)) (hf : cells + mc ≤ R.cells ∧ slots + ms ≤ R.slots) :
    vx_Run p l e R s m args below meth c H locs cells slots mc ms g rest (Qc (Value.ref b :: As).toArray) XC free := by
  obtain ⟨⟨hrc, hrs, hfr, hlo, hws, hcw⟩, hcode, hini, hy, hlen, hl, hin, hse⟩ := cw
  have hK : vx_Back l R p e below s args y 3 8 (PreOf R mc ms Pc) (PostOf Qc mc ms free) (vx_Post XC mc ms free) := vx_backW (hh := hh) (bytes := bytes) (maxL := maxL) (ret := ret) hM hp.1 hrc hrs hfr hlo hws hcw (fun a' U hW => word_at hW (Or.inl (by first | rfl | simp [Cond.onTables, Cond.keeps, Cond.steady])) hini)
  obtain ⟨hx, hb, hml, ho, -⟩ := S
  obtain ⟨-, ⟨cellB, hcB, hoB, hclB⟩, hPc⟩ := hp
  intro T hT X
  rcases vx_callVX X hx (C := C) (hh := hh) (bytes := bytes) (maxL := maxL) (ret := ret) ho hl hin hse hcode hy hK (by rw [hT]; exact hcB) hoB hclB hg (hsize.trans hml.symm) (argsL := As) (rest := rest) (fun sig h => hn.trans (hlen sig h)) hstack hW (by rw [hb]; exact hdg)
    (fun vm₁ hW₁ => ⟨hf.1, hf.2, hPc (T.setVm vm₁) hT hW₁⟩) with ⟨v, vm₁, ⟨U', l2, c2, s2⟩, hW₁, X', ⟨g', mk, t, L, e1, e2, hq, h1, hL, h2, h3⟩, st⟩ | ⟨q, vm₁, ⟨U', l2, c2, s2⟩, hW₁, X', ⟨g', mk, t, L, E, ce, e1, e2, hq, hce, hcv, hcl, h1, hL, h2, h3⟩, st⟩
  · dsimp only [Pt.U, Pt.locs, Pt.cells, Pt.slots] at X' e1 e2 h1 h2 h3 st
    subst h1; subst h2; subst h3
    exact Or.inl ⟨v, (T.setVm vm₁).calling g' mk (Value.ref b :: As).toArray, t, U', L, hT, X', hL, e1, e2, hq, st⟩
  · dsimp only [Pt.U, Pt.locs, Pt.cells, Pt.slots] at X' e1 e2 h1 h2 h3 st hcl
    subst h1; subst h2; subst h3
    exact Or.inr ⟨q, (T.setVm vm₁).calling g' mk (Value.ref b :: As).toArray, t, U', L, E, ce, hT, X', hL, e1, e2, hq, hce, hcv, vx_cls hW₁ hcl, st⟩
theorem vx_runSX {hh : List (Nat × Nat × Nat × Nat)} (S : CallFix p m c cc nL s args Ts own) (hM : vx_Met l y ws rm Pc Qc XC mc ms free) (cw : vx_CSW R s args own index y bytes maxL ret hh ws rm mc ms n) (hp : PreS s H Pc As)
    (hg : g.method = m) (hn : As.length = n) (hsize : g.locals.size = nL) (hstack : g.stack = As.reverse ++ rest) (hW : 2 * g.monitorRoom + (rest.map fun v => v.category).sum ≤ 8) (hdg : decode cc g.pc = .ok (.invokestatic index, 3)) (hf : cells + mc ≤ R.cells ∧ slots + ms ≤ R.slots) :
    vx_Run p l e R s m args below meth c H locs cells slots mc ms g rest (Qc As.toArray) XC free := by
  obtain ⟨⟨hrc, hrs, hfr, hlo, hws, hcw⟩, hcode, hini, hy, hlen, hl, hstt⟩ := cw
  have hK : vx_Back l R p e below s args y 3 8 (PreOf R mc ms Pc) (PostOf Qc mc ms free) (vx_Post XC mc ms free) := vx_backW (hh := hh) (bytes := bytes) (maxL := maxL) (ret := ret) hM hp.1 hrc hrs hfr hlo hws hcw (fun a' U hW => word_at hW (Or.inl (by first | rfl | simp [Cond.onTables, Cond.keeps, Cond.steady])) hini)
  obtain ⟨hx, hb, hml, ho, -⟩ := S
  intro T hT X
  rcases vx_callSX X hx (hh := hh) (bytes := bytes) (maxL := maxL) (ret := ret) ho hl hstt hini hcode hy hK hg (hsize.trans hml.symm) (argsL := As) (rest := rest) (fun sig h => hn.trans (hlen sig h)) hstack hW (by rw [hb]; exact hdg)
    (fun vm₁ hW₁ => ⟨hf.1, hf.2, hp.2 (T.setVm vm₁) hT hW₁⟩) with ⟨v, vm₁, ⟨U', l2, c2, s2⟩, hW₁, X', ⟨g', mk, t, L, e1, e2, hq, h1, hL, h2, h3⟩, st⟩ | ⟨q, vm₁, ⟨U', l2, c2, s2⟩, hW₁, X', ⟨g', mk, t, L, E, ce, e1, e2, hq, hce, hcv, hcl, h1, hL, h2, h3⟩, st⟩
  · dsimp only [Pt.U, Pt.locs, Pt.cells, Pt.slots] at X' e1 e2 h1 h2 h3 st
    subst h1; subst h2; subst h3
    exact Or.inl ⟨v, (T.setVm vm₁).calling g' mk As.toArray, t, U', L, hT, X', hL, e1, e2, hq, st⟩
  · dsimp only [Pt.U, Pt.locs, Pt.cells, Pt.slots] at X' e1 e2 h1 h2 h3 st hcl
    subst h1; subst h2; subst h3
    exact Or.inr ⟨q, (T.setVm vm₁).calling g' mk As.toArray, t, U', L, E, ce, hT, X', hL, e1, e2, hq, hce, hcv, vx_cls hW₁ hcl, st⟩
end
end VXH
theorem vx_ofWH {l : Launch} {y : MethodName} {ws ws' : List Cond} {rm : Room} {Pc : Array Value → State → Prop} {Qc : Array Value → State → Outcome → State → Prop} {XC : String → State → State → Prop} {mc ms : Nat} {free : Addr → Prop} {cc : ByteArray} {maxL : Nat} {ret : Option FieldType} {hh : List (Nat × Nat × Nat × Nat)}
    (hy : plainName y.cls = true) (hw : ws = Cond.codeWith y cc maxL ret hh :: ws')
    (body : ∀ p e s m args below meth c s₁, BodyLoose p l y (headSpec ws rm) cc maxL ret e s m args below meth c s₁ → c.maxLocals = maxL → Pc args s →
      W p l e (headSpec ws rm).room s m args below meth c s.heap [] 0 0 (vx_MQ below Qc XC args s mc ms free) (entryFrame m args maxL)) : vx_Met l y ws rm Pc Qc XC mc ms free := by
  refine MetFree.of_bodyS (code := cc) (maxLocals := maxL) (ret := ret) hy ?_ ?_
  · intro args s m h hn
    obtain ⟨m9, meth, c, hn9, h1, h2, h3, h4, -, h5, h6, -⟩ := Cond.codeWith_spec (atoms_spec (ws := ws) h _ (by rw [hw]; exact List.mem_cons_self))
    cases hn.symm.trans hn9
    exact ⟨meth, c, h1, h2, h3, h4, h5, h6⟩
  · intro p e s m args below meth c s₁ B hml hP _
    have hh0 : s₁.heap = s.heap := by rw [B.state]; rfl
    obtain ⟨t, a1, o, b1, b2, b3⟩ := body p e s m args below meth c s₁ B hml hP s₁ hh0 (Stand.of_body B)
    exact ⟨t, o, a1, b1, b2, b3⟩
/-! ===== END ===== -/
/-! ===== BEGIN what the machine throws by itself, no traces kept ===== -/
section VXM
set_option maxHeartbeats 1000000 in
/-- the machine throws cls with the message text, no traces kept: from its note over the frame g to 'throwing' over the same frame (follows the proofs of Stand.vmThrowsMessage, Shelf/KitTracedVmS.lean, and Stand.throwsMessageColdBareV, StandMessageColdV.lean, without the step out of the frame) -/
theorem vx_vmAt {p : Program} {l : Launch} {e : Env} {R : Room} {s : State} {m₀ : MethodId} {args : Array Value} {below : List Frame} {meth : Method} {c : Code} {W : State} {locs : List Loc} {cells slots : Nat}
    (X : Stand p l e R s m₀ args below meth c W locs cells slots) (hexec : p.tables.exec = Jvm.exec) (htr : e.platform.stackTraces = false) {cls : String} {names : List String} {text : String}
    (hcls : Bundle.fit cls = true) (hnames : ∀ n ∈ names, Bundle.fit n = true) (hsoe : (cls == "java/lang/StackOverflowError") = false) (hoom : (cls == "java/lang/OutOfMemoryError") = false)
    (h : ∀ a ∈ Bundle.messageArmAtoms cls names, a.before args s = true)
    (hlocs : ∀ x ∈ locs, ∀ cell, s.heap[x.base]? = some cell → cell.vm.isStatics = false)
    (htext : (text == notModelled) = false) (hlimit : ¬ (stringBytes (stringToUtf16 text)).size > e.platform.arrayLengthLimit) (hheap : ¬ (stringBytes (stringToUtf16 text)).size * componentBytes .byte > e.platform.maxHeapBytes)
    {g : JFrame} (hg : g.method = m₀) (hsize : g.locals.size = c.maxLocals)
    (hRframes : names.length + 4 < R.frames) (hRlocals : 2 * g.monitorRoom + (g.stack.map fun v => v.category).sum + 10240 ≤ R.locals) (hshort : 13 * names.length + 55 ≤ 10240)
    (hRcells : cells + 3 ≤ R.cells) (hRslots : slots + ((stringBytes (stringToUtf16 text)).size + 4 + 6) ≤ R.slots) (hlocks : meth.locks = false) :
    ∃ (S : State) (q : Addr) (ce : Cell), (∀ target, Steps p.tables e below ((S.setTop g).pushFrame (.throwing q)) target → Steps p.tables e below ((W.setTop g).pushFrame (.throwNew cls (some text) none)) target) ∧
      Stand p l e R s m₀ args below meth c S locs (cells + 3) (slots + ((stringBytes (stringToUtf16 text)).size + 4 + 6)) ∧ S.heap[q]? = some ce ∧ s.vm.findClass cls = some ce.cls ∧ ce.vm = .none := by
  have howns : e.platform.frameOwnsMonitors = true := by rw [X.admits.platform]
  have hfin : e.platform.finalization = false := by rw [X.admits.platform]
  have hpl : e.platform.magicAccessors = ({} : Platform).magicAccessors := by rw [X.admits.platform]
  have a : ∀ x, x ∈ Bundle.messageArmAtoms cls names → x.holds args s none s [] = true := fun x hx => h x hx
  obtain ⟨T, Z0, L, -, Y⟩ := ThrowableC.of_atoms (args := args) howns hfin hpl (fun x hx => h x (by simp [Bundle.messageArmAtoms, hx]))
  obtain ⟨Z, M, LZ, LM, hnZ⟩ := Init0T.ofS_atoms (args := args) hpl L Y (fun x hx => h x (by simp [Bundle.messageArmAtoms, hx]))
  obtain ⟨P1, Ps, hlen, L1, hL, hP1m, hlink1, hlink⟩ := Bundle.chainS (args := args) hpl hnZ names cls hcls hnames (fun x hx => h x (by simp [Bundle.messageArmAtoms, hx]))
  obtain ⟨Zs, LZs, hn4, hfitv, hfitc⟩ := StringT.of_atoms (args := args) (fun x hx => h x (by simp [Bundle.messageArmAtoms, hx]))
  have hfound : s.vm.findClass cls = some P1.m.cls := findClass_of_methodNamed hP1m
  obtain ⟨c1, kX, hc1, hk, hord, -, -, hn6⟩ := Cond.instantiable_spec (a (.instantiable cls 6) (by simp [Bundle.messageArmAtoms]))
  cases Option.some.inj (hc1.symm.trans hfound)
  have hinit := Cond.initialized_spec hfound hk (a (.initialized cls) (by simp [Bundle.messageArmAtoms]))
  have hctor : kX.findMethod "<init>" "(Ljava/lang/String;)V" = some P1.m.idx := findMethod_of_methodNamed hP1m hk
  have hsel0 : selectMethod e.platform s.vm P1.m.cls T.fill0 = .method T.fill0 := by
    obtain ⟨c2, r2, m2, q1, q2, q3, q4, -⟩ := Cond.selects_spec (a (.selects cls Bundle.tFill0 Bundle.tFill0) (by simp [Bundle.messageArmAtoms]))
    cases Option.some.inj (q1.symm.trans hfound)
    cases Option.some.inj (q2.symm.trans (State.methodFound?_of_named Y.fill0 (by decide)))
    cases Option.some.inj (q3.symm.trans Y.fill0)
    rw [Launch.admits_selectMethod X.admits]; exact q4
  have hselF : selectMethod e.platform s.vm P1.m.cls T.fill = .method T.fill := by
    obtain ⟨c2, r2, m2, q1, q2, q3, q4, -⟩ := Cond.selects_spec (a (.selects cls Bundle.tFill Bundle.tFill) (by simp [Bundle.messageArmAtoms]))
    cases Option.some.inj (q1.symm.trans hfound)
    cases Option.some.inj (q2.symm.trans (State.methodFound?_of_named Y.fill (by decide)))
    cases Option.some.inj (q3.symm.trans Y.fill)
    rw [Launch.admits_selectMethod X.admits]; exact q4
  obtain ⟨cellS0, hcS0, hiss⟩ := Y.statics
  obtain ⟨u0, hu0⟩ := Cond.staticRefV Y.unassigned L.unassignedStatic L.statics hcS0 hiss (a (.isRef (.static Bundle.tN "UNASSIGNED_STACK" Bundle.steD)) (by simp [Bundle.messageArmAtoms]))
  obtain ⟨sen, hsen⟩ := Cond.staticRefV Y.sentinel L.sentinelStatic L.statics hcS0 hiss (a (.isRef (.static Bundle.tN "SUPPRESSED_SENTINEL" Bundle.listD)) (by simp [Bundle.messageArmAtoms]))
  obtain ⟨ci198, i198, fB, hk198, hg198, ha198, hsB, -, hnB, htB, hffB⟩ := Cond.ownField (t := .object "java/lang/Object") Y.found L.cls (by decide +kernel) (a (.fieldLink Bundle.tN 198 Bundle.tN "backtrace" "Ljava/lang/Object;") (by simp [Bundle.messageArmAtoms])) (a (.lays Bundle.tN Bundle.tN "backtrace" "Ljava/lang/Object;") (by simp [Bundle.messageArmAtoms])) e.platform hpl
  obtain ⟨cellS, hcS', heS, -, hkeep⟩ := X.same.2.2.2.2.2 T.aS cellS0 hcS0
  have hcellS : W.heap[T.aS]? = some cellS := hcS'
  have hout' : ∀ i, (⟨T.aS, i⟩ : Loc) ∉ locs := fun i hmem => by
    have := hlocs _ hmem cellS0 hcS0
    rw [hiss] at this; cases this
  have hknownS : cellS.vm ≠ .unknown := by
    rw [heS]; intro hu
    rw [show cellS0.vm = .unknown from hu] at hiss
    cases hiss
  have hvU : cellS.slots[T.fUnassigned.slot]? = some u0.v := by rw [hkeep _ (hout' _)]; exact hu0
  have hvSen : cellS.slots[T.fSentinel.slot]? = some sen.v := by rw [hkeep _ (hout' _)]; exact hsen
  obtain ⟨iM, hffM⟩ := Y.msg
  obtain ⟨tyC, dC, hdC, hdnC⟩ := Cond.laysAt hfound hk Y.cause (a (.lays cls Bundle.tN "cause" "Ljava/lang/Throwable;") (by simp [Bundle.messageArmAtoms]))
  obtain ⟨tyS, dS, hdS, hdnS⟩ := Cond.laysAt hfound hk Y.stack (a (.lays cls Bundle.tN "stackTrace" Bundle.steD) (by simp [Bundle.messageArmAtoms]))
  obtain ⟨tyP, dP, hdP, hdnP⟩ := Cond.laysAt hfound hk Y.supp (a (.lays cls Bundle.tN "suppressedExceptions" Bundle.listD) (by simp [Bundle.messageArmAtoms]))
  obtain ⟨tyM, dM, hdM, hdnM⟩ := Cond.laysAt hfound hk hffM (a (.lays cls Bundle.tN "detailMessage" "Ljava/lang/String;") (by simp [Bundle.messageArmAtoms]))
  obtain ⟨tyB, dB, hdB, hdnB⟩ := Cond.laysAt hfound hk hffB (a (.lays cls Bundle.tN "backtrace" "Ljava/lang/Object;") (by simp [Bundle.messageArmAtoms]))
  have bC := Cond.laysApart hdB hdC hdnB hdnC (by rw [hnB, Y.causeName]; decide)
  have bS := Cond.laysApart hdB hdS hdnB hdnS (by rw [hnB, Y.stackName]; decide)
  have bP := Cond.laysApart hdB hdP hdnB hdnP (by rw [hnB, Y.suppName]; decide)
  have hbk : ((preparedCellV T.toThrowableT (freshCell P1.m.cls kX) (W.heap.size + 2) u0 sen).withEntry W.cur).slots[fB.slot]? = some .null := by
    have := fresh_default (c := P1.m.cls) tyB
    rw [htB] at this
    simpa [preparedCellV, Cell.setSlot, Cell.withEntry, Array.getElem?_setIfInBounds, bC, bS, bP, bC.symm, bS.symm, bP.symm, defaultValue] using this
  have tkC := Takes.of_laid (v := .ref (W.heap.size + 2)) hk hord tyC (by rw [Y.causeType]; rfl)
  have tkS := Takes.of_laid (v := u0.v) hk hord tyS (by rw [Y.stackType]; exact fits_refV_array _ u0)
  have tkP := Takes.of_laid (v := sen.v) hk hord tyP (by rw [Y.suppType]; exact fits_refV_object _ sen)
  have tkM := Takes.of_laid (v := .ref (W.heap.size + 1)) hk hord tyM (by rw [Y.msgType]; rfl)
  have hskip : SkipFacts T e.platform s (fun u => u) u0 ((preparedCellV T.toThrowableT (freshCell P1.m.cls kX) (W.heap.size + 2) u0 sen).withEntry W.cur) := ⟨{ ci198 := ci198, i198 := i198, fBack := fB }, ⟨hk198, hg198, ha198, hsB⟩, hbk, fun _ _ => rfl⟩
  have h0 : At W g.method c below := by rw [hg]; exact X.here
  obtain ⟨hbeyond, hfreeW⟩ := X.vmMayThrow hsize (.throwNew cls (some text) none) (fun f hf => by cases hf) rfl hRlocals
  have hfr' : W.frames.length + Ps.length + 4 < (e.platform.stackLimits W.me).1 := by have := X.framesAbove hRframes; omega
  have hwd' : (stackUse (.java g :: W.frames.tail)).2 + 13 * Ps.length + 55 ≤ (e.platform.stackLimits W.me).2 := by have := X.stackAbove hsize (K := 13 * Ps.length + 55) (by omega); omega
  have hslots : W.slotsUsed + (stringBytes (stringToUtf16 text)).size + Zs.kS.instanceTypes.size + kX.instanceTypes.size ≤ e.platform.maxSlots := by
    have := X.slotsAbove hRslots
    rw [hn4, hn6]
    omega
  obtain ⟨vm', hW', st⟩ := Steps.vmThrowsMessageColdByV p (s₀ := s) (S := W) (g := g) h0 hexec T L Z LZ M LM X.warmed (t := W.cur) rfl Zs LZs P1 L1 Ps hL hlink1 hlink hsoe hoom hfound hk hinit hord hctor
    (Launch.admits_hotImplicitExceptions X.admits) hbeyond hfreeW htext hlimit hheap (X.cellsAbove hRcells) hslots (hfitv _) (hfitc _)
    (Nn := fun u => u) heapOnly_id (fun _ _ => rfl) (fun _ => rfl) (fun u x y => setCell_twice _ _ _ _) (fun _ => Nat.le_refl _) (cN := ((preparedCellV T.toThrowableT (freshCell P1.m.cls kX) (W.heap.size + 2) u0 sen).withEntry W.cur))
    hsel0 hcellS hknownS hvU tkS (fun _ hu => hu) (fun _ hu => hu) rfl rfl rfl (by simp [preparedCellV, Cell.setSlot, Cell.withEntry]) hskip (fun _ _ hA hW _ hroom _ hrest => L.nativeOff p htr hA hW hroom hrest) hselF hvSen tkC tkP tkM Y.objLocals rfl hfr' hwd'
  rw [plainBareV_eq T.toThrowableT (W.heap.size + 2) u0 sen (.ref (W.heap.size + 1)) W.cur rfl rfl] at st
  obtain ⟨-, -, w3, w4, -, -, -⟩ := withThrown_facts e.platform W Zs text P1.m.cls kX
  have X3 := ((X.pushed (bytesOf Zs.cB (stringToUtf16 text))).pushed (stringAt Zs.cS Zs.kS Zs.fv Zs.fc (stringToUtf16 text) W.heap.size)).pushed (freshCell P1.m.cls kX)
  rw [← withString_eq] at X3
  have X4 := X3.noted hW'
  have ha : (W.heap.size + 2) < ((withThrown W Zs text P1.m.cls kX).setVm vm').heap.size := by show _ < (withThrown W Zs text P1.m.cls kX).heap.size; rw [w3]; omega
  have hcell : ((withThrown W Zs text P1.m.cls kX).setVm vm').heap[(W.heap.size + 2)]? = some (freshCell P1.m.cls kX) := w4
  have X5 := ((((X4.stored hcell T.fCause.slot (.ref (W.heap.size + 2))).storedAgain ha T.fStack.slot u0.v).storedAgain ha T.fSupp.slot sen.v).storedAgain ha T.fStack.slot u0.v).storedAgain ha T.fMsg.slot (.ref (W.heap.size + 1))
  obtain ⟨g₁, hfrM⟩ := X5.frames_eq
  have hU : ((((withThrown W Zs text P1.m.cls kX).setVm vm').setCell (W.heap.size + 2) (plainBareV T.toThrowableT (freshCell P1.m.cls kX) (W.heap.size + 2) u0 sen (.ref (W.heap.size + 1)))).setTop g).pushFrame (.throwing (W.heap.size + 2)) = (((withThrown W Zs text P1.m.cls kX).setVm vm').setCell (W.heap.size + 2) (plainBareV T.toThrowableT (freshCell P1.m.cls kX) (W.heap.size + 2) u0 sen (.ref (W.heap.size + 1)))).setFrames (.throwing (W.heap.size + 2) :: .java g :: below) := by
    rw [State.pushFrame, State.frames_setTop _ hfrM, State.setTop_of_frames _ hfrM, State.setFrames_setFrames]
  have b1 : (bytesOf Zs.cB (stringToUtf16 text)).slots.size = (stringBytes (stringToUtf16 text)).size := by
    rw [(Cell.writeAll_facts _ _).2.2]; simp [bytes0]
  have b2 : (stringAt Zs.cS Zs.kS Zs.fv Zs.fc (stringToUtf16 text) W.heap.size).slots.size = 4 := by simp [string0, Cell.setSlot, hn4]
  have b3 : (freshCell P1.m.cls kX).slots.size = 6 := by simp [hn6]
  rw [b1, b2, b3] at X5
  have e9 : slots + (stringBytes (stringToUtf16 text)).size + 4 + 6 = slots + ((stringBytes (stringToUtf16 text)).size + 4 + 6) := by omega
  rw [e9] at X5
  simp only [List.append_assoc, List.cons_append, List.nil_append] at X5
  refine ⟨((withThrown W Zs text P1.m.cls kX).setVm vm').setCell (W.heap.size + 2) (plainBareV T.toThrowableT (freshCell P1.m.cls kX) (W.heap.size + 2) u0 sen (.ref (W.heap.size + 1))), W.heap.size + 2, _, fun target ht => st _ (by rw [X.tail, ← hU]; exact ht),
    X5.forget (fun y hy => ?_), heapAt_setCell_self _ ha, hfound, rfl⟩
  simp only [List.mem_cons, List.not_mem_nil, or_false] at hy
  have hge : s.heap.size ≤ W.heap.size := X.same.2.1
  rcases hy with rfl | rfl | rfl | rfl | rfl <;> exact Nat.le_trans hge (Nat.le_add_right _ 2)
set_option maxHeartbeats 1000000 in
/-- the machine throws NullPointerException, no traces kept: from its note over the frame g to 'throwing' over the same frame (follows the proof of Stand.vmThrowsNpe, Shelf42/KT2.lean; throwsNpeColdBareVAt, Shelf42/NT91.lean, called) -/
theorem vx_npeAt {p : Program} {l : Launch} {e : Env} {R : Room} {s : State} {m₀ : MethodId} {args : Array Value} {below : List Frame} {meth : Method} {c : Code} {W : State} {locs : List Loc} {cells slots : Nat}
    (X : Stand p l e R s m₀ args below meth c W locs cells slots) (hexec : p.tables.exec = Jvm.exec) (htr : e.platform.stackTraces = false) {n : Nat}
    (h : ∀ a ∈ Bundle.npeArmAtoms n, a.before args s = true)
    (hlocs : ∀ x ∈ locs, ∀ cell, s.heap[x.base]? = some cell → cell.vm.isStatics = false)
    {g : JFrame} (hg : g.method = m₀) (hsize : g.locals.size = c.maxLocals)
    (hRframes : 7 < R.frames) (hRlocals : 2 * g.monitorRoom + (g.stack.map fun v => v.category).sum + 10240 ≤ R.locals)
    (hRcells : cells + 1 ≤ R.cells) (hRslots : slots + n ≤ R.slots) (hlocks : meth.locks = false) :
    ∃ (S : State) (q : Addr) (ce : Cell), (∀ target, Steps p.tables e below ((S.setTop g).pushFrame (.throwing q)) target → Steps p.tables e below ((W.setTop g).pushFrame (.throwNew "java/lang/NullPointerException" none none)) target) ∧
      Stand p l e R s m₀ args below meth c S locs (cells + 1) (slots + n) ∧ S.heap[q]? = some ce ∧ s.vm.findClass "java/lang/NullPointerException" = some ce.cls ∧ ce.vm = .none := by
  have howns : e.platform.frameOwnsMonitors = true := by rw [X.admits.platform]
  have hfin : e.platform.finalization = false := by rw [X.admits.platform]
  have hpl : e.platform.magicAccessors = ({} : Platform).magicAccessors := by rw [X.admits.platform]
  have hpl2 : e.platform.arrayCloneIsPublic = true := by rw [X.admits.platform]
  have a' : ∀ x, x ∈ Bundle.npeArmAtoms n → x.holds args s none s [] = true := fun x hx => h x hx
  obtain ⟨T, Z, L, LZ, Y⟩ := ThrowableC.of_atoms (args := args) howns hfin hpl (fun x hx => h x (by simp [Bundle.npeArmAtoms, hx]))
  obtain ⟨N, LN, hcN, hnNF, hordN, hffS⟩ := NpeC.of_atoms (args := args) hpl hpl2 L Y (fun x hx => h x (by simp [Bundle.npeArmAtoms, hx]))
  obtain ⟨P1, L1, hP1m, hP1s⟩ := PassC.of_atoms (args := args) (s := s) hpl (X := Bundle.nN) (Y := Bundle.rN) (by decide) (by decide) LibCode.NullPointerException.Init0.at_0 LibCode.NullPointerException.Init0.at_1 LibCode.NullPointerException.Init0.at_4 (fun x hx => h x (by simp [Bundle.npeArmAtoms, hx]))
  obtain ⟨PR, LR, hPRm, hPRs⟩ := PassC.of_atoms (args := args) (s := s) hpl (X := Bundle.rN) (Y := Bundle.eN) (by decide) (by decide) LibCode.RuntimeException.Init0.at_0 LibCode.RuntimeException.Init0.at_1 LibCode.RuntimeException.Init0.at_4 (fun x hx => h x (by simp [Bundle.npeArmAtoms, hx]))
  obtain ⟨PE, LEx, hPEm, hPEs⟩ := PassC.of_atoms (args := args) (s := s) hpl (X := Bundle.eN) (Y := Bundle.tN) (by decide) (by decide) LibCode.Exception.Init0.at_0 LibCode.Exception.Init0.at_1 LibCode.Exception.Init0.at_4 (fun x hx => h x (by simp [Bundle.npeArmAtoms, hx]))
  have hfound : s.vm.findClass Bundle.nN = some P1.m.cls := findClass_of_methodNamed hP1m
  have ecls : N.cN = P1.m.cls := Option.some.inj (hcN.symm.trans hfound)
  have hk : s.vm.classes[P1.m.cls]? = some N.kN := by rw [← ecls]; exact LN.cls
  have hinit := Cond.initialized_spec hfound hk (a' (.initialized Bundle.nN) (by simp [Bundle.npeArmAtoms]))
  have hctor : N.kN.findMethod "<init>" "()V" = some P1.m.idx := findMethod_of_methodNamed hP1m hk
  obtain ⟨c1, k1, hc1, hk1, -, -, -, hn⟩ := Cond.instantiable_spec (a' (.instantiable Bundle.nN n) (by simp [Bundle.npeArmAtoms]))
  cases Option.some.inj (hc1.symm.trans hfound)
  cases Option.some.inj (hk1.symm.trans hk)
  have hfsz : (freshCell P1.m.cls N.kN).slots.size = n := by simp [hn]
  have hlink1 : P1.sup = PR.m := Option.some.inj (hP1s.symm.trans hPRm)
  have hlinkR : PR.sup = PE.m := Option.some.inj (hPRs.symm.trans hPEm)
  have hlinkE : PE.sup = Z.m T.toThrowableT := Option.some.inj (hPEs.symm.trans Y.init0)
  have hLs : ∀ P, P ∈ [PR, PE] → P.Links0 e.platform s := fun P hP => by
    simp only [List.mem_cons, List.not_mem_nil, or_false] at hP
    rcases hP with rfl | rfl
    · exact LR
    · exact LEx
  have hsel0 : selectMethod e.platform s.vm P1.m.cls T.fill0 = .method T.fill0 := by
    obtain ⟨c2, r2, m2, q1, q2, q3, q4, -⟩ := Cond.selects_spec (a' (.selects Bundle.nN Bundle.tFill0 Bundle.tFill0) (by simp [Bundle.npeArmAtoms]))
    cases Option.some.inj (q1.symm.trans hfound)
    cases Option.some.inj (q2.symm.trans (State.methodFound?_of_named Y.fill0 (by decide)))
    cases Option.some.inj (q3.symm.trans Y.fill0)
    rw [Launch.admits_selectMethod X.admits]; exact q4
  have hselF : selectMethod e.platform s.vm P1.m.cls T.fill = .method N.fill := by
    obtain ⟨c2, r2, m2, q1, q2, q3, q4, -⟩ := Cond.selects_spec (a' (.selects Bundle.nN Bundle.tFill Bundle.nFill) (by simp [Bundle.npeArmAtoms]))
    cases Option.some.inj (q1.symm.trans hfound)
    cases Option.some.inj (q2.symm.trans (State.methodFound?_of_named Y.fill (by decide)))
    cases Option.some.inj (q3.symm.trans hnNF)
    rw [Launch.admits_selectMethod X.admits]; exact q4
  obtain ⟨cellS0, hcS0, hiss⟩ := Y.statics
  obtain ⟨u0, hu0⟩ := Cond.staticRefV Y.unassigned L.unassignedStatic L.statics hcS0 hiss (a' (.isRef (.static Bundle.tN "UNASSIGNED_STACK" Bundle.steD)) (by simp [Bundle.npeArmAtoms]))
  obtain ⟨sen, hsen⟩ := Cond.staticRefV Y.sentinel L.sentinelStatic L.statics hcS0 hiss (a' (.isRef (.static Bundle.tN "SUPPRESSED_SENTINEL" Bundle.listD)) (by simp [Bundle.npeArmAtoms]))
  obtain ⟨ci198, i198, fB, hk198, hg198, ha198, hsB, -, hnB, htB, hffB⟩ := Cond.ownField (t := .object "java/lang/Object") Y.found L.cls (by decide +kernel) (a' (.fieldLink Bundle.tN 198 Bundle.tN "backtrace" Bundle.objD) (by simp [Bundle.npeArmAtoms])) (a' (.lays Bundle.tN Bundle.tN "backtrace" Bundle.objD) (by simp [Bundle.npeArmAtoms])) e.platform hpl
  obtain ⟨cellS, hcS', heS, -, hkeep⟩ := X.same.2.2.2.2.2 T.aS cellS0 hcS0
  have hcellS : W.heap[T.aS]? = some cellS := hcS'
  have hout' : ∀ i, (⟨T.aS, i⟩ : Loc) ∉ locs := fun i hmem => by
    have := hlocs _ hmem cellS0 hcS0
    rw [hiss] at this; cases this
  have hknownS : cellS.vm ≠ .unknown := by
    rw [heS]; intro hu
    rw [show cellS0.vm = .unknown from hu] at hiss
    cases hiss
  have hvU : cellS.slots[T.fUnassigned.slot]? = some u0.v := by rw [hkeep _ (hout' _)]; exact hu0
  have hvSen : cellS.slots[T.fSentinel.slot]? = some sen.v := by rw [hkeep _ (hout' _)]; exact hsen
  obtain ⟨tyC, dC, hdC, hdnC⟩ := Cond.laysAt hfound hk Y.cause (a' (.lays Bundle.nN Bundle.tN "cause" "Ljava/lang/Throwable;") (by simp [Bundle.npeArmAtoms]))
  obtain ⟨tyS, dS, hdS, hdnS⟩ := Cond.laysAt hfound hk Y.stack (a' (.lays Bundle.nN Bundle.tN "stackTrace" Bundle.steD) (by simp [Bundle.npeArmAtoms]))
  obtain ⟨tyP, dP, hdP, hdnP⟩ := Cond.laysAt hfound hk Y.supp (a' (.lays Bundle.nN Bundle.tN "suppressedExceptions" Bundle.listD) (by simp [Bundle.npeArmAtoms]))
  obtain ⟨tyX, dX, hdX, hdnX⟩ := Cond.laysAt hfound hk hffS (a' (.lays Bundle.nN Bundle.nN "extendedMessageState" "I") (by simp [Bundle.npeArmAtoms, Bundle.npeAtoms]))
  obtain ⟨hnX, htX⟩ := State.fieldFound?_type hffS (t := .int) (by decide +kernel)
  have xC := Cond.laysApart hdC hdX hdnC hdnX (by rw [hnX, Y.causeName]; decide)
  have xS := Cond.laysApart hdS hdX hdnS hdnX (by rw [hnX, Y.stackName]; decide)
  have xP := Cond.laysApart hdP hdX hdnP hdnX (by rw [hnX, Y.suppName]; decide)
  have hv0 : (freshCell P1.m.cls N.kN).slots[N.fState.slot]? = some (.int 0) := by
    have := fresh_default (c := P1.m.cls) tyX
    rw [htX] at this; exact this
  obtain ⟨tyB, dB, hdB, hdnB⟩ := Cond.laysAt hfound hk hffB (a' (.lays Bundle.nN Bundle.tN "backtrace" Bundle.objD) (by simp [Bundle.npeArmAtoms]))
  have bC := Cond.laysApart hdB hdC hdnB hdnC (by rw [hnB, Y.causeName]; decide)
  have bS := Cond.laysApart hdB hdS hdnB hdnS (by rw [hnB, Y.stackName]; decide)
  have bP := Cond.laysApart hdB hdP hdnB hdnP (by rw [hnB, Y.suppName]; decide)
  have bX := Cond.laysApart hdB hdX hdnB hdnX (by rw [hnB, hnX]; decide)
  have hbk : ((npeCell N.toNpeT (preparedCellV T.toThrowableT (freshCell P1.m.cls N.kN) W.heap.size u0 sen) W.cur).withEntry W.cur).slots[fB.slot]? = some .null := by
    have := fresh_default (c := P1.m.cls) tyB
    rw [htB] at this
    simpa [npeCell, preparedCellV, Cell.setSlot, Cell.withEntry, Array.getElem?_setIfInBounds, bC, bS, bP, bX, bC.symm, bS.symm, bP.symm, bX.symm, defaultValue] using this
  have tkC := Takes.of_laid (v := .ref W.heap.size) hk hordN tyC (by rw [Y.causeType]; rfl)
  have tkS := Takes.of_laid (v := u0.v) hk hordN tyS (by rw [Y.stackType]; exact fits_refV_array _ u0)
  have tkP := Takes.of_laid (v := sen.v) hk hordN tyP (by rw [Y.suppType]; exact fits_refV_object _ sen)
  have tkX := Takes.of_laid (v := .int 1) hk hordN tyX (by rw [htX]; rfl)
  have hskip : SkipFacts T e.platform s (fun u => u) u0 ((npeCell N.toNpeT (preparedCellV T.toThrowableT (freshCell P1.m.cls N.kN) W.heap.size u0 sen) W.cur).withEntry W.cur) := ⟨{ ci198 := ci198, i198 := i198, fBack := fB }, ⟨hk198, hg198, ha198, hsB⟩, hbk, fun _ _ => rfl⟩
  obtain ⟨vm', X3, st, -⟩ := X.throwsNpeColdBareVAt hexec hg hsize T L Z LZ N LN P1 L1 [PR, PE] hLs hlink1 ⟨hlinkR, hlinkE, trivial⟩ hfound hk hinit hordN hctor hsel0 hselF hcellS hknownS hvU hvSen
    hv0 xC xS xP tkC tkS tkP tkX Y.objLocals hskip (fun _ _ hA hW _ hroom _ hrest => L.nativeOff p htr hA hW hroom hrest) (by simpa using hRframes) hRlocals (by simp) hRcells (by rw [hn]; exact hRslots)
  have hlt : W.heap.size < ((W.pushCell (freshCell P1.m.cls N.kN)).setVm vm').heap.size := by
    show W.heap.size < (W.pushCell (freshCell P1.m.cls N.kN)).heap.size
    rw [State.heap_size_pushCell]; omega
  rw [hfsz] at X3
  obtain ⟨g₁, hfrM⟩ := X3.frames_eq
  have hU : ((((W.pushCell (freshCell P1.m.cls N.kN)).setVm vm').setCell W.heap.size (npeBareV T.toThrowableT N.toNpeT (freshCell P1.m.cls N.kN) W.heap.size u0 sen)).setTop g).pushFrame (.throwing W.heap.size) = (((W.pushCell (freshCell P1.m.cls N.kN)).setVm vm').setCell W.heap.size (npeBareV T.toThrowableT N.toNpeT (freshCell P1.m.cls N.kN) W.heap.size u0 sen)).setFrames (.throwing W.heap.size :: .java g :: below) := by
    rw [State.pushFrame, State.frames_setTop _ hfrM, State.setTop_of_frames _ hfrM, State.setFrames_setFrames]
  refine ⟨_, W.heap.size, _, fun target ht => st.trans (by rw [← hU]; exact ht), X3.forget (fun y hy => ?_), heapAt_setCell_self _ hlt, hfound, rfl⟩
  simp only [List.mem_cons, List.not_mem_nil, or_false] at hy
  have hge : s.heap.size ≤ W.heap.size := X.same.2.1
  rcases hy with rfl | rfl | rfl | rfl | rfl <;> exact hge
/-- the words of a machine's NullPointerException, but the four that speak of the heap -/
def vx_atN (n : Nat) : List Cond := (Bundle.npeArmAtoms n).filter vx_no
/-- the words of a machine's throw with a message, but the four that speak of the heap -/
def vx_atM (X : String) (names : List String) : List Cond := (Bundle.messageArmAtoms X names).filter vx_no
section
variable {p : Program} {l : Launch} {e : Env} {R : Room} {s : State} {m : MethodId} {args : Array Value} {below : List Frame} {meth : Method} {c : Code} {H : Heap} {locs : List Loc} {cells slots : Nat}
/-- a frame seen from a rebased start, seen from the first start again -/
theorem vx_back9 {T S : State} {R' : Room} {k n : Nat} (X : Stand p l e R s m args below meth c T locs cells slots) (Y : Stand p l e R' ((T.setVm s.vm).setFrames (.invoking m args :: below)) m args below meth c T [] 0 0) (Z : Stand p l e R' ((T.setVm s.vm).setFrames (.invoking m args :: below)) m args below meth c S [] k n) :
    Stand p l e R s m args below meth c S locs (cells + k) (slots + n) := by
  have hW0 : s.WarmedH ((T.setVm s.vm).setFrames (.invoking m args :: below)).vm := State.WarmedH.refl s
  refine { admits := X.admits, cas := X.cas, clock := X.clock, frames := X.frames, room := X.room, hears := X.hears, method := X.method, code := X.code, here := Z.here, tail := Z.tail, warmed := State.WarmedH.trans hW0 Z.warmed, limits := Z.limits.trans (Y.limits.symm.trans X.limits), bytes := Z.bytes.trans (Y.bytes.symm.trans X.bytes), same := ?_ }
  obtain ⟨e1, e2⟩ := Z.same
  rw [State.setFrames_setFrames] at e1
  have h2 : (T.setVm s.vm).sameButNew (S.setVm s.vm) [] k n := ⟨e1, e2⟩
  have h3 := X.same.trans h2
  rw [List.append_nil] at h3
  exact h3
/-- from the machine's note that E is thrown here with this text -/
def vx_Note (p : Program) (l : Launch) (e : Env) (R : Room) (s : State) (m : MethodId) (args : Array Value) (below : List Frame) (meth : Method) (c : Code) (H : Heap) (locs : List Loc) (cells slots : Nat) (Q : State → Prop) (g : JFrame) (E text : String) : Prop :=
  ∀ T : State, T.heap = H → Stand p l e R s m args below meth c T locs cells slots → ∃ t, Steps p.tables e below ((T.setTop g).pushFrame (.throwNew E (some text) none)) t ∧ Q t
theorem vx_vm {pc : Nat} {ls : Array Slot} {rest : List Value} {Q : State → Prop} (hexec : p.tables.exec = Jvm.exec) (hl : l.stackTraces = false) {cls text : String} {names : List String} {nb : Nat} {A : Nat → Prop}
    (hcls : Bundle.fit cls = true) (hnames : ∀ n ∈ names, Bundle.fit n = true) (hsoe : (cls == "java/lang/StackOverflowError") = false) (hoom : (cls == "java/lang/OutOfMemoryError") = false)
    (hat : ∀ w ∈ vx_atM cls names, w.before args s = true) (hgood : ∀ w ∈ vx_atM cls names, vx_ot w = true)
    (hU : vx_Zq Bundle.tN "UNASSIGNED_STACK" Bundle.steD A s s.heap) (hN : vx_Zq Bundle.tN "SUPPRESSED_SENTINEL" Bundle.listD A s s.heap) (hS : va_S A s.heap H locs) (hsize : ls.size = c.maxLocals)
    (htext : (text == notModelled) = false) (hnb : (stringBytes (stringToUtf16 text)).size ≤ nb) (hnb1 : nb ≤ 1000)
    (hRframes : names.length + 4 < R.frames) (hRlocals : (rest.map fun v => v.category).sum + 10240 ≤ R.locals) (hshort : 13 * names.length + 55 ≤ 10240) (hRcells : cells + 3 ≤ R.cells) (hRslots : slots + (nb + 10) ≤ R.slots) (hlocks : meth.locks = false)
    (k : ∀ (H1 : Heap) (q9 : Addr) (ce : Cell), H.size ≤ H1.size → (∀ q : Nat, q < H.size → H1[q]? = H[q]?) → va_S A s.heap H1 locs → H1[q9]? = some ce → ce.vm = .none → s.vm.findClass cls = some ce.cls → vx_W p l e R s m args below meth c H1 locs (cells + 3) (slots + (nb + 10)) Q (F0 m pc ls rest) q9) :
    vx_Note p l e R s m args below meth c H locs cells slots Q (F0 m pc ls rest) cls text := by
  intro T hT X
  have htr : e.platform.stackTraces = false := (show e.platform.stackTraces = l.stackTraces by rw [X.admits.platform]).trans hl
  have Y := vx_rebase X (R' := { frames := R.frames, locals := R.locals, cells := 3, slots := nb + 10 }) (Nat.le_refl _) (Nat.le_refl _) hRcells hRslots
  have hhp : ((T.setVm s.vm).setFrames (.invoking m args :: below)).heap = H := hT
  have hW0 : s.WarmedH ((T.setVm s.vm).setFrames (.invoking m args :: below)).vm := State.WarmedH.refl s
  have hat' : ∀ w ∈ vx_atM cls names, w.before args ((T.setVm s.vm).setFrames (.invoking m args :: below)) = true := fun w hw => vx_ot_at hW0 rfl (hgood w hw) (hat w hw)
  have hU' : vx_Zq Bundle.tN "UNASSIGNED_STACK" Bundle.steD A ((T.setVm s.vm).setFrames (.invoking m args :: below)) ((T.setVm s.vm).setFrames (.invoking m args :: below)).heap := by rw [hhp]; exact vx_Zq.moved hW0.alike (hU.kept hS.2.1)
  have hN' : vx_Zq Bundle.tN "SUPPRESSED_SENTINEL" Bundle.listD A ((T.setVm s.vm).setFrames (.invoking m args :: below)) ((T.setVm s.vm).setFrames (.invoking m args :: below)).heap := by rw [hhp]; exact vx_Zq.moved hW0.alike (hN.kept hS.2.1)
  obtain ⟨S, q, ce, st, Z, hce, hcl', hv⟩ := vx_vmAt Y hexec htr (cls := cls) (names := names) (text := text) hcls hnames hsoe hoom (vx_own hat' (vx_isRefq hU'.1) (vx_isRefq hN'.1) hU'.2.word hN'.2.word) (fun x hx => nomatch hx) htext
    (by rw [Launch.admits_arrayLengthLimit X.admits]; omega) (by rw [Launch.admits_maxHeapBytes X.admits]; simp only [componentBytes]; omega)
    (g := F0 m pc ls rest) rfl hsize hRframes (by show 2 * 0 + (rest.map fun v => v.category).sum + 10240 ≤ R.locals; omega) hshort (by show 0 + 3 ≤ 3; omega) (by show 0 + (_ + 4 + 6) ≤ nb + 10; omega) hlocks
  obtain ⟨f1, f2⟩ := vx_frame Z.same
  have f1' : H.size ≤ S.heap.size := by rw [← hT]; exact f1
  have f2' : ∀ q : Nat, q < H.size → S.heap[q]? = H[q]? := fun q hq => by
    rw [← hT]
    exact f2 q (by rw [← hT] at hq; exact hq) (fun z hz => nomatch hz)
  have X5 := vx_back9 X Y Z
  have X6 : Stand p l e R s m args below meth c S locs (cells + 3) (slots + (nb + 10)) := { X5 with same := X5.same.mono (by omega) (by omega) }
  obtain ⟨t, a1, b1⟩ := k S.heap q ce f1' f2' ⟨Nat.le_trans hS.1 f1', fun q h1 h2 => (f2' q (Nat.lt_of_lt_of_le h1 hS.1)).trans (hS.2.1 q h1 h2), hS.2.2⟩ hce hv hcl' S rfl X6
  exact ⟨t, st t a1, b1⟩
/-- from the machine's note that NullPointerException is thrown here -/
def vx_NoteN (p : Program) (l : Launch) (e : Env) (R : Room) (s : State) (m : MethodId) (args : Array Value) (below : List Frame) (meth : Method) (c : Code) (H : Heap) (locs : List Loc) (cells slots : Nat) (Q : State → Prop) (g : JFrame) : Prop :=
  ∀ T : State, T.heap = H → Stand p l e R s m args below meth c T locs cells slots → ∃ t, Steps p.tables e below ((T.setTop g).pushFrame (.throwNew "java/lang/NullPointerException" none none)) t ∧ Q t
theorem vx_npe {pc : Nat} {ls : Array Slot} {rest : List Value} {Q : State → Prop} (hexec : p.tables.exec = Jvm.exec) (hl : l.stackTraces = false) {nb : Nat} {A : Nat → Prop}
    (hat : ∀ w ∈ vx_atN nb, w.before args s = true) (hgood : ∀ w ∈ vx_atN nb, vx_ot w = true)
    (hU : vx_Zq Bundle.tN "UNASSIGNED_STACK" Bundle.steD A s s.heap) (hN : vx_Zq Bundle.tN "SUPPRESSED_SENTINEL" Bundle.listD A s s.heap) (hS : va_S A s.heap H locs) (hsize : ls.size = c.maxLocals)
    (hRframes : 7 < R.frames) (hRlocals : (rest.map fun v => v.category).sum + 10240 ≤ R.locals) (hRcells : cells + 1 ≤ R.cells) (hRslots : slots + nb ≤ R.slots) (hlocks : meth.locks = false)
    (k : ∀ (H1 : Heap) (q9 : Addr) (ce : Cell), H.size ≤ H1.size → (∀ q : Nat, q < H.size → H1[q]? = H[q]?) → va_S A s.heap H1 locs → H1[q9]? = some ce → ce.vm = .none → s.vm.findClass "java/lang/NullPointerException" = some ce.cls → vx_W p l e R s m args below meth c H1 locs (cells + 1) (slots + nb) Q (F0 m pc ls rest) q9) :
    vx_NoteN p l e R s m args below meth c H locs cells slots Q (F0 m pc ls rest) := by
  intro T hT X
  have htr : e.platform.stackTraces = false := (show e.platform.stackTraces = l.stackTraces by rw [X.admits.platform]).trans hl
  have Y := vx_rebase X (R' := { frames := R.frames, locals := R.locals, cells := 1, slots := nb }) (Nat.le_refl _) (Nat.le_refl _) hRcells hRslots
  have hhp : ((T.setVm s.vm).setFrames (.invoking m args :: below)).heap = H := hT
  have hW0 : s.WarmedH ((T.setVm s.vm).setFrames (.invoking m args :: below)).vm := State.WarmedH.refl s
  have hat' : ∀ w ∈ vx_atN nb, w.before args ((T.setVm s.vm).setFrames (.invoking m args :: below)) = true := fun w hw => vx_ot_at hW0 rfl (hgood w hw) (hat w hw)
  have hU' : vx_Zq Bundle.tN "UNASSIGNED_STACK" Bundle.steD A ((T.setVm s.vm).setFrames (.invoking m args :: below)) ((T.setVm s.vm).setFrames (.invoking m args :: below)).heap := by rw [hhp]; exact vx_Zq.moved hW0.alike (hU.kept hS.2.1)
  have hN' : vx_Zq Bundle.tN "SUPPRESSED_SENTINEL" Bundle.listD A ((T.setVm s.vm).setFrames (.invoking m args :: below)) ((T.setVm s.vm).setFrames (.invoking m args :: below)).heap := by rw [hhp]; exact vx_Zq.moved hW0.alike (hN.kept hS.2.1)
  obtain ⟨S, q, ce, st, Z, hce, hcl', hv⟩ := vx_npeAt Y hexec htr (n := nb) (vx_own hat' (vx_isRefq hU'.1) (vx_isRefq hN'.1) hU'.2.word hN'.2.word) (fun x hx => nomatch hx)
    (g := F0 m pc ls rest) rfl hsize hRframes (by show 2 * 0 + (rest.map fun v => v.category).sum + 10240 ≤ R.locals; omega) (by show 0 + 1 ≤ 1; omega) (by show 0 + nb ≤ nb; omega) hlocks
  obtain ⟨f1, f2⟩ := vx_frame Z.same
  have f1' : H.size ≤ S.heap.size := by rw [← hT]; exact f1
  have f2' : ∀ q : Nat, q < H.size → S.heap[q]? = H[q]? := fun q hq => by
    rw [← hT]
    exact f2 q (by rw [← hT] at hq; exact hq) (fun z hz => nomatch hz)
  have X5 := vx_back9 X Y Z
  have X6 : Stand p l e R s m args below meth c S locs (cells + 1) (slots + nb) := { X5 with same := X5.same.mono (by omega) (by omega) }
  obtain ⟨t, a1, b1⟩ := k S.heap q ce f1' f2' ⟨Nat.le_trans hS.1 f1', fun q h1 h2 => (f2' q (Nat.lt_of_lt_of_le h1 hS.1)).trans (hS.2.1 q h1 h2), hS.2.2⟩ hce hv hcl' S rfl X6
  exact ⟨t, st t a1, b1⟩
variable {Q : State → Prop} {cc : ByteArray} {pc : Nat} {ls : Array Slot} {rest : List Value}
theorem vx_idivZ (hexec : p.tables.exec = Jvm.exec) (hb : c.code = cc) {a b : Int32} (h0 : b = 0) (d : decode cc pc = .ok (.idiv, 1)) (k : vx_Note p l e R s m args below meth c H locs cells slots Q (F0 m pc ls rest) "java/lang/ArithmeticException" "/ by zero") :
    W p l e R s m args below meth c H locs cells slots Q (F0 m pc ls (.int b :: .int a :: rest)) := by
  intro T hT X
  obtain ⟨t, st, q⟩ := k T hT X
  exact ⟨t, X.idivZero hexec (g := F0 m pc ls (.int b :: .int a :: rest)) rfl (a := a) (rest := rest) (by rw [h0]) (by rw [hb]; exact d) t st, q⟩
theorem vx_iremZ (hexec : p.tables.exec = Jvm.exec) (hb : c.code = cc) {a b : Int32} (h0 : b = 0) (d : decode cc pc = .ok (.irem, 1)) (k : vx_Note p l e R s m args below meth c H locs cells slots Q (F0 m pc ls rest) "java/lang/ArithmeticException" "/ by zero") :
    W p l e R s m args below meth c H locs cells slots Q (F0 m pc ls (.int b :: .int a :: rest)) := by
  intro T hT X
  obtain ⟨t, st, q⟩ := k T hT X
  exact ⟨t, X.iremZero hexec (g := F0 m pc ls (.int b :: .int a :: rest)) rfl (a := a) (rest := rest) (by rw [h0]) (by rw [hb]; exact d) t st, q⟩
theorem vx_ldivZ (hexec : p.tables.exec = Jvm.exec) (hb : c.code = cc) {a b : Int64} (h0 : b = 0) (d : decode cc pc = .ok (.ldiv, 1)) (k : vx_Note p l e R s m args below meth c H locs cells slots Q (F0 m pc ls rest) "java/lang/ArithmeticException" "/ by zero") :
    W p l e R s m args below meth c H locs cells slots Q (F0 m pc ls (.long b :: .long a :: rest)) := by
  intro T hT X
  obtain ⟨t, st, q⟩ := k T hT X
  exact ⟨t, X.ldivZero hexec (g := F0 m pc ls (.long b :: .long a :: rest)) rfl (a := a) (rest := rest) (by rw [h0]) (by rw [hb]; exact d) t st, q⟩
theorem vx_lremZ (hexec : p.tables.exec = Jvm.exec) (hb : c.code = cc) {a b : Int64} (h0 : b = 0) (d : decode cc pc = .ok (.lrem, 1)) (k : vx_Note p l e R s m args below meth c H locs cells slots Q (F0 m pc ls rest) "java/lang/ArithmeticException" "/ by zero") :
    W p l e R s m args below meth c H locs cells slots Q (F0 m pc ls (.long b :: .long a :: rest)) := by
  intro T hT X
  obtain ⟨t, st, q⟩ := k T hT X
  exact ⟨t, X.lremZero hexec (g := F0 m pc ls (.long b :: .long a :: rest)) rfl (a := a) (rest := rest) (by rw [h0]) (by rw [hb]; exact d) t st, q⟩
theorem vx_ialdZ {D : va_G} {cl : List vw_C} {ws : va_W} {tys : List (ClassId × FieldType)} {a : Nat} (hexec : p.tables.exec = Jvm.exec) (hb : c.code = cc) (hK : va_K D cl tys s) (hP : va_P D cl ws H) (q0 t0 : Nat) {cA : ClassId} {n : Nat} {f : Nat → Int32} (ha : ws[q0]? = some (a, .inl (cA, n, .inl f))) (ht : tys[t0]? = some (cA, .int)) {i : Int32} (hout : ¬ vp_in i n) (hdg : decode cc pc = .ok (.iaload, 1))
    (k : ∀ tx : String, tx = (toString "Index " ++ toString i ++ toString " out of bounds for length " ++ toString n : String) → vx_Note p l e R s m args below meth c H locs cells slots Q (F0 m pc ls rest) "java/lang/ArrayIndexOutOfBoundsException" tx) : W p l e R s m args below meth c H locs cells slots Q (F0 m pc ls (.int i :: .ref a :: rest)) := by
  intro T hT X
  obtain ⟨t, st, q⟩ := k _ rfl T hT X
  refine ⟨t, ?_, q⟩
  have h1 := X.ialoadOut hexec (by rw [hT]; exact hP q0 _ ha) ((hK.2 t0 _ ht).1 n (fun j => .int (f j))) (j := i) (by show (i < 0 ∨ (arrV _ _ _).slots.size ≤ _); rw [arrV_size]; exact Classical.byContradiction hout) (g := F0 m pc ls (.int i :: .ref a :: rest)) rfl (rest := rest) rfl (by rw [hb]; exact hdg) t
  simp only [arrV_size] at h1
  exact h1 st
theorem vx_iastZ {D : va_G} {cl : List vw_C} {ws : va_W} {tys : List (ClassId × FieldType)} {a : Nat} (hexec : p.tables.exec = Jvm.exec) (hb : c.code = cc) (hK : va_K D cl tys s) (hP : va_P D cl ws H) (q0 t0 : Nat) {cA : ClassId} {n : Nat} {f : Nat → Int32} (ha : ws[q0]? = some (a, .inl (cA, n, .inl f))) (ht : tys[t0]? = some (cA, .int)) {i : Int32} {x : Int32} (hout : ¬ vp_in i n) (hdg : decode cc pc = .ok (.iastore, 1))
    (k : ∀ tx : String, tx = (toString "Index " ++ toString i ++ toString " out of bounds for length " ++ toString n : String) → vx_Note p l e R s m args below meth c H locs cells slots Q (F0 m pc ls rest) "java/lang/ArrayIndexOutOfBoundsException" tx) : W p l e R s m args below meth c H locs cells slots Q (F0 m pc ls (.int x :: .int i :: .ref a :: rest)) := by
  intro T hT X
  obtain ⟨t, st, q⟩ := k _ rfl T hT X
  refine ⟨t, ?_, q⟩
  have h1 := X.iastoreOut hexec (by rw [hT]; exact hP q0 _ ha) ((hK.2 t0 _ ht).1 n (fun j => .int (f j))) (j := i) (by show (i < 0 ∨ (arrV _ _ _).slots.size ≤ _); rw [arrV_size]; exact Classical.byContradiction hout) (g := F0 m pc ls (.int x :: .int i :: .ref a :: rest)) rfl (rest := rest) rfl (by rw [hb]; exact hdg) t
  simp only [arrV_size] at h1
  exact h1 st
theorem vx_baldZ {D : va_G} {cl : List vw_C} {ws : va_W} {tys : List (ClassId × FieldType)} {a : Nat} (hexec : p.tables.exec = Jvm.exec) (hb : c.code = cc) (hK : va_K D cl tys s) (hP : va_P D cl ws H) (q0 t0 : Nat) {cA : ClassId} {n : Nat} {f : Nat → Int32} (ha : ws[q0]? = some (a, .inl (cA, n, .inl f))) (ht : tys[t0]? = some (cA, .byte)) {i : Int32} (hout : ¬ vp_in i n) (hdg : decode cc pc = .ok (.baload, 1))
    (k : ∀ tx : String, tx = (toString "Index " ++ toString i ++ toString " out of bounds for length " ++ toString n : String) → vx_Note p l e R s m args below meth c H locs cells slots Q (F0 m pc ls rest) "java/lang/ArrayIndexOutOfBoundsException" tx) : W p l e R s m args below meth c H locs cells slots Q (F0 m pc ls (.int i :: .ref a :: rest)) := by
  intro T hT X
  obtain ⟨t, st, q⟩ := k _ rfl T hT X
  refine ⟨t, ?_, q⟩
  have h1 := X.baloadOut hexec (by rw [hT]; exact hP q0 _ ha) ((hK.2 t0 _ ht).1 n (fun j => .int (f j))) (j := i) (by show (i < 0 ∨ (arrV _ _ _).slots.size ≤ _); rw [arrV_size]; exact Classical.byContradiction hout) (g := F0 m pc ls (.int i :: .ref a :: rest)) rfl (rest := rest) rfl (by rw [hb]; exact hdg) t
  simp only [arrV_size] at h1
  exact h1 st
theorem vx_bastZ {D : va_G} {cl : List vw_C} {ws : va_W} {tys : List (ClassId × FieldType)} {a : Nat} (hexec : p.tables.exec = Jvm.exec) (hb : c.code = cc) (hK : va_K D cl tys s) (hP : va_P D cl ws H) (q0 t0 : Nat) {cA : ClassId} {n : Nat} {f : Nat → Int32} (ha : ws[q0]? = some (a, .inl (cA, n, .inl f))) (ht : tys[t0]? = some (cA, .byte)) {i : Int32} {x : Int32} (hout : ¬ vp_in i n) (hdg : decode cc pc = .ok (.bastore, 1))
    (k : ∀ tx : String, tx = (toString "Index " ++ toString i ++ toString " out of bounds for length " ++ toString n : String) → vx_Note p l e R s m args below meth c H locs cells slots Q (F0 m pc ls rest) "java/lang/ArrayIndexOutOfBoundsException" tx) : W p l e R s m args below meth c H locs cells slots Q (F0 m pc ls (.int x :: .int i :: .ref a :: rest)) := by
  intro T hT X
  obtain ⟨t, st, q⟩ := k _ rfl T hT X
  refine ⟨t, ?_, q⟩
  have h1 := X.bastoreOut hexec (by rw [hT]; exact hP q0 _ ha) ((hK.2 t0 _ ht).1 n (fun j => .int (f j))) (j := i) (by show (i < 0 ∨ (arrV _ _ _).slots.size ≤ _); rw [arrV_size]; exact Classical.byContradiction hout) (g := F0 m pc ls (.int x :: .int i :: .ref a :: rest)) rfl (rest := rest) rfl (by rw [hb]; exact hdg) t
  simp only [arrV_size] at h1
  exact h1 st
theorem vx_zaldZ {D : va_G} {cl : List vw_C} {ws : va_W} {tys : List (ClassId × FieldType)} {a : Nat} (hexec : p.tables.exec = Jvm.exec) (hb : c.code = cc) (hK : va_K D cl tys s) (hP : va_P D cl ws H) (q0 t0 : Nat) {cA : ClassId} {n : Nat} {f : Nat → Int32} (ha : ws[q0]? = some (a, .inl (cA, n, .inl f))) (ht : tys[t0]? = some (cA, .boolean)) {i : Int32} (hout : ¬ vp_in i n) (hdg : decode cc pc = .ok (.baload, 1))
    (k : ∀ tx : String, tx = (toString "Index " ++ toString i ++ toString " out of bounds for length " ++ toString n : String) → vx_Note p l e R s m args below meth c H locs cells slots Q (F0 m pc ls rest) "java/lang/ArrayIndexOutOfBoundsException" tx) : W p l e R s m args below meth c H locs cells slots Q (F0 m pc ls (.int i :: .ref a :: rest)) := by
  intro T hT X
  obtain ⟨t, st, q⟩ := k _ rfl T hT X
  refine ⟨t, ?_, q⟩
  have h1 := X.baloadOut hexec (by rw [hT]; exact hP q0 _ ha) ((hK.2 t0 _ ht).1 n (fun j => .int (f j))) (j := i) (by show (i < 0 ∨ (arrV _ _ _).slots.size ≤ _); rw [arrV_size]; exact Classical.byContradiction hout) (g := F0 m pc ls (.int i :: .ref a :: rest)) rfl (rest := rest) rfl (by rw [hb]; exact hdg) t
  simp only [arrV_size] at h1
  exact h1 st
theorem vx_zastZ {D : va_G} {cl : List vw_C} {ws : va_W} {tys : List (ClassId × FieldType)} {a : Nat} (hexec : p.tables.exec = Jvm.exec) (hb : c.code = cc) (hK : va_K D cl tys s) (hP : va_P D cl ws H) (q0 t0 : Nat) {cA : ClassId} {n : Nat} {f : Nat → Int32} (ha : ws[q0]? = some (a, .inl (cA, n, .inl f))) (ht : tys[t0]? = some (cA, .boolean)) {i : Int32} {x : Int32} (hout : ¬ vp_in i n) (hdg : decode cc pc = .ok (.bastore, 1))
    (k : ∀ tx : String, tx = (toString "Index " ++ toString i ++ toString " out of bounds for length " ++ toString n : String) → vx_Note p l e R s m args below meth c H locs cells slots Q (F0 m pc ls rest) "java/lang/ArrayIndexOutOfBoundsException" tx) : W p l e R s m args below meth c H locs cells slots Q (F0 m pc ls (.int x :: .int i :: .ref a :: rest)) := by
  intro T hT X
  obtain ⟨t, st, q⟩ := k _ rfl T hT X
  refine ⟨t, ?_, q⟩
  have h1 := X.bastoreOut hexec (by rw [hT]; exact hP q0 _ ha) ((hK.2 t0 _ ht).1 n (fun j => .int (f j))) (j := i) (by show (i < 0 ∨ (arrV _ _ _).slots.size ≤ _); rw [arrV_size]; exact Classical.byContradiction hout) (g := F0 m pc ls (.int x :: .int i :: .ref a :: rest)) rfl (rest := rest) rfl (by rw [hb]; exact hdg) t
  simp only [arrV_size] at h1
  exact h1 st
theorem vx_caldZ {D : va_G} {cl : List vw_C} {ws : va_W} {tys : List (ClassId × FieldType)} {a : Nat} (hexec : p.tables.exec = Jvm.exec) (hb : c.code = cc) (hK : va_K D cl tys s) (hP : va_P D cl ws H) (q0 t0 : Nat) {cA : ClassId} {n : Nat} {f : Nat → Int32} (ha : ws[q0]? = some (a, .inl (cA, n, .inl f))) (ht : tys[t0]? = some (cA, .char)) {i : Int32} (hout : ¬ vp_in i n) (hdg : decode cc pc = .ok (.caload, 1))
    (k : ∀ tx : String, tx = (toString "Index " ++ toString i ++ toString " out of bounds for length " ++ toString n : String) → vx_Note p l e R s m args below meth c H locs cells slots Q (F0 m pc ls rest) "java/lang/ArrayIndexOutOfBoundsException" tx) : W p l e R s m args below meth c H locs cells slots Q (F0 m pc ls (.int i :: .ref a :: rest)) := by
  intro T hT X
  obtain ⟨t, st, q⟩ := k _ rfl T hT X
  refine ⟨t, ?_, q⟩
  have h1 := X.caloadOut hexec (by rw [hT]; exact hP q0 _ ha) ((hK.2 t0 _ ht).1 n (fun j => .int (f j))) (j := i) (by show (i < 0 ∨ (arrV _ _ _).slots.size ≤ _); rw [arrV_size]; exact Classical.byContradiction hout) (g := F0 m pc ls (.int i :: .ref a :: rest)) rfl (rest := rest) rfl (by rw [hb]; exact hdg) t
  simp only [arrV_size] at h1
  exact h1 st
theorem vx_castZ {D : va_G} {cl : List vw_C} {ws : va_W} {tys : List (ClassId × FieldType)} {a : Nat} (hexec : p.tables.exec = Jvm.exec) (hb : c.code = cc) (hK : va_K D cl tys s) (hP : va_P D cl ws H) (q0 t0 : Nat) {cA : ClassId} {n : Nat} {f : Nat → Int32} (ha : ws[q0]? = some (a, .inl (cA, n, .inl f))) (ht : tys[t0]? = some (cA, .char)) {i : Int32} {x : Int32} (hout : ¬ vp_in i n) (hdg : decode cc pc = .ok (.castore, 1))
    (k : ∀ tx : String, tx = (toString "Index " ++ toString i ++ toString " out of bounds for length " ++ toString n : String) → vx_Note p l e R s m args below meth c H locs cells slots Q (F0 m pc ls rest) "java/lang/ArrayIndexOutOfBoundsException" tx) : W p l e R s m args below meth c H locs cells slots Q (F0 m pc ls (.int x :: .int i :: .ref a :: rest)) := by
  intro T hT X
  obtain ⟨t, st, q⟩ := k _ rfl T hT X
  refine ⟨t, ?_, q⟩
  have h1 := X.castoreOut hexec (by rw [hT]; exact hP q0 _ ha) ((hK.2 t0 _ ht).1 n (fun j => .int (f j))) (j := i) (by show (i < 0 ∨ (arrV _ _ _).slots.size ≤ _); rw [arrV_size]; exact Classical.byContradiction hout) (g := F0 m pc ls (.int x :: .int i :: .ref a :: rest)) rfl (rest := rest) rfl (by rw [hb]; exact hdg) t
  simp only [arrV_size] at h1
  exact h1 st
theorem vx_saldZ {D : va_G} {cl : List vw_C} {ws : va_W} {tys : List (ClassId × FieldType)} {a : Nat} (hexec : p.tables.exec = Jvm.exec) (hb : c.code = cc) (hK : va_K D cl tys s) (hP : va_P D cl ws H) (q0 t0 : Nat) {cA : ClassId} {n : Nat} {f : Nat → Int32} (ha : ws[q0]? = some (a, .inl (cA, n, .inl f))) (ht : tys[t0]? = some (cA, .short)) {i : Int32} (hout : ¬ vp_in i n) (hdg : decode cc pc = .ok (.saload, 1))
    (k : ∀ tx : String, tx = (toString "Index " ++ toString i ++ toString " out of bounds for length " ++ toString n : String) → vx_Note p l e R s m args below meth c H locs cells slots Q (F0 m pc ls rest) "java/lang/ArrayIndexOutOfBoundsException" tx) : W p l e R s m args below meth c H locs cells slots Q (F0 m pc ls (.int i :: .ref a :: rest)) := by
  intro T hT X
  obtain ⟨t, st, q⟩ := k _ rfl T hT X
  refine ⟨t, ?_, q⟩
  have h1 := X.saloadOut hexec (by rw [hT]; exact hP q0 _ ha) ((hK.2 t0 _ ht).1 n (fun j => .int (f j))) (j := i) (by show (i < 0 ∨ (arrV _ _ _).slots.size ≤ _); rw [arrV_size]; exact Classical.byContradiction hout) (g := F0 m pc ls (.int i :: .ref a :: rest)) rfl (rest := rest) rfl (by rw [hb]; exact hdg) t
  simp only [arrV_size] at h1
  exact h1 st
theorem vx_sastZ {D : va_G} {cl : List vw_C} {ws : va_W} {tys : List (ClassId × FieldType)} {a : Nat} (hexec : p.tables.exec = Jvm.exec) (hb : c.code = cc) (hK : va_K D cl tys s) (hP : va_P D cl ws H) (q0 t0 : Nat) {cA : ClassId} {n : Nat} {f : Nat → Int32} (ha : ws[q0]? = some (a, .inl (cA, n, .inl f))) (ht : tys[t0]? = some (cA, .short)) {i : Int32} {x : Int32} (hout : ¬ vp_in i n) (hdg : decode cc pc = .ok (.sastore, 1))
    (k : ∀ tx : String, tx = (toString "Index " ++ toString i ++ toString " out of bounds for length " ++ toString n : String) → vx_Note p l e R s m args below meth c H locs cells slots Q (F0 m pc ls rest) "java/lang/ArrayIndexOutOfBoundsException" tx) : W p l e R s m args below meth c H locs cells slots Q (F0 m pc ls (.int x :: .int i :: .ref a :: rest)) := by
  intro T hT X
  obtain ⟨t, st, q⟩ := k _ rfl T hT X
  refine ⟨t, ?_, q⟩
  have h1 := X.sastoreOut hexec (by rw [hT]; exact hP q0 _ ha) ((hK.2 t0 _ ht).1 n (fun j => .int (f j))) (j := i) (by show (i < 0 ∨ (arrV _ _ _).slots.size ≤ _); rw [arrV_size]; exact Classical.byContradiction hout) (g := F0 m pc ls (.int x :: .int i :: .ref a :: rest)) rfl (rest := rest) rfl (by rw [hb]; exact hdg) t
  simp only [arrV_size] at h1
  exact h1 st
theorem vx_laldZ {D : va_G} {cl : List vw_C} {ws : va_W} {tys : List (ClassId × FieldType)} {a : Nat} (hexec : p.tables.exec = Jvm.exec) (hb : c.code = cc) (hK : va_K D cl tys s) (hP : va_P D cl ws H) (q0 t0 : Nat) {cA : ClassId} {n : Nat} {f : Nat → Int64} (ha : ws[q0]? = some (a, .inl (cA, n, .inr (.inl f)))) (ht : tys[t0]? = some (cA, .long)) {i : Int32} (hout : ¬ vp_in i n) (hdg : decode cc pc = .ok (.laload, 1))
    (k : ∀ tx : String, tx = (toString "Index " ++ toString i ++ toString " out of bounds for length " ++ toString n : String) → vx_Note p l e R s m args below meth c H locs cells slots Q (F0 m pc ls rest) "java/lang/ArrayIndexOutOfBoundsException" tx) : W p l e R s m args below meth c H locs cells slots Q (F0 m pc ls (.int i :: .ref a :: rest)) := by
  intro T hT X
  obtain ⟨t, st, q⟩ := k _ rfl T hT X
  refine ⟨t, ?_, q⟩
  have h1 := X.laloadOut hexec (by rw [hT]; exact hP q0 _ ha) ((hK.2 t0 _ ht).1 n (fun j => .long (f j))) (j := i) (by show (i < 0 ∨ (arrV _ _ _).slots.size ≤ _); rw [arrV_size]; exact Classical.byContradiction hout) (g := F0 m pc ls (.int i :: .ref a :: rest)) rfl (rest := rest) rfl (by rw [hb]; exact hdg) t
  simp only [arrV_size] at h1
  exact h1 st
theorem vx_lastZ {D : va_G} {cl : List vw_C} {ws : va_W} {tys : List (ClassId × FieldType)} {a : Nat} (hexec : p.tables.exec = Jvm.exec) (hb : c.code = cc) (hK : va_K D cl tys s) (hP : va_P D cl ws H) (q0 t0 : Nat) {cA : ClassId} {n : Nat} {f : Nat → Int64} (ha : ws[q0]? = some (a, .inl (cA, n, .inr (.inl f)))) (ht : tys[t0]? = some (cA, .long)) {i : Int32} {x : Int64} (hout : ¬ vp_in i n) (hdg : decode cc pc = .ok (.lastore, 1))
    (k : ∀ tx : String, tx = (toString "Index " ++ toString i ++ toString " out of bounds for length " ++ toString n : String) → vx_Note p l e R s m args below meth c H locs cells slots Q (F0 m pc ls rest) "java/lang/ArrayIndexOutOfBoundsException" tx) : W p l e R s m args below meth c H locs cells slots Q (F0 m pc ls (.long x :: .int i :: .ref a :: rest)) := by
  intro T hT X
  obtain ⟨t, st, q⟩ := k _ rfl T hT X
  refine ⟨t, ?_, q⟩
  have h1 := X.lastoreOut hexec (by rw [hT]; exact hP q0 _ ha) ((hK.2 t0 _ ht).1 n (fun j => .long (f j))) (j := i) (by show (i < 0 ∨ (arrV _ _ _).slots.size ≤ _); rw [arrV_size]; exact Classical.byContradiction hout) (g := F0 m pc ls (.long x :: .int i :: .ref a :: rest)) rfl (rest := rest) rfl (by rw [hb]; exact hdg) t
  simp only [arrV_size] at h1
  exact h1 st
theorem vx_faldZ {D : va_G} {cl : List vw_C} {ws : va_W} {tys : List (ClassId × FieldType)} {a : Nat} (hexec : p.tables.exec = Jvm.exec) (hb : c.code = cc) (hK : va_K D cl tys s) (hP : va_P D cl ws H) (q0 t0 : Nat) {cA : ClassId} {n : Nat} {f : Nat → UInt32} (ha : ws[q0]? = some (a, .inl (cA, n, .inr (.inr (.inl f))))) (ht : tys[t0]? = some (cA, .float)) {i : Int32} (hout : ¬ vp_in i n) (hdg : decode cc pc = .ok (.faload, 1))
    (k : ∀ tx : String, tx = (toString "Index " ++ toString i ++ toString " out of bounds for length " ++ toString n : String) → vx_Note p l e R s m args below meth c H locs cells slots Q (F0 m pc ls rest) "java/lang/ArrayIndexOutOfBoundsException" tx) : W p l e R s m args below meth c H locs cells slots Q (F0 m pc ls (.int i :: .ref a :: rest)) := by
  intro T hT X
  obtain ⟨t, st, q⟩ := k _ rfl T hT X
  refine ⟨t, ?_, q⟩
  have h1 := X.faloadOut hexec (by rw [hT]; exact hP q0 _ ha) ((hK.2 t0 _ ht).1 n (fun j => .float (f j))) (j := i) (by show (i < 0 ∨ (arrV _ _ _).slots.size ≤ _); rw [arrV_size]; exact Classical.byContradiction hout) (g := F0 m pc ls (.int i :: .ref a :: rest)) rfl (rest := rest) rfl (by rw [hb]; exact hdg) t
  simp only [arrV_size] at h1
  exact h1 st
theorem vx_fastZ {D : va_G} {cl : List vw_C} {ws : va_W} {tys : List (ClassId × FieldType)} {a : Nat} (hexec : p.tables.exec = Jvm.exec) (hb : c.code = cc) (hK : va_K D cl tys s) (hP : va_P D cl ws H) (q0 t0 : Nat) {cA : ClassId} {n : Nat} {f : Nat → UInt32} (ha : ws[q0]? = some (a, .inl (cA, n, .inr (.inr (.inl f))))) (ht : tys[t0]? = some (cA, .float)) {i : Int32} {x : UInt32} (hout : ¬ vp_in i n) (hdg : decode cc pc = .ok (.fastore, 1))
    (k : ∀ tx : String, tx = (toString "Index " ++ toString i ++ toString " out of bounds for length " ++ toString n : String) → vx_Note p l e R s m args below meth c H locs cells slots Q (F0 m pc ls rest) "java/lang/ArrayIndexOutOfBoundsException" tx) : W p l e R s m args below meth c H locs cells slots Q (F0 m pc ls (.float x :: .int i :: .ref a :: rest)) := by
  intro T hT X
  obtain ⟨t, st, q⟩ := k _ rfl T hT X
  refine ⟨t, ?_, q⟩
  have h1 := X.fastoreOut hexec (by rw [hT]; exact hP q0 _ ha) ((hK.2 t0 _ ht).1 n (fun j => .float (f j))) (j := i) (by show (i < 0 ∨ (arrV _ _ _).slots.size ≤ _); rw [arrV_size]; exact Classical.byContradiction hout) (g := F0 m pc ls (.float x :: .int i :: .ref a :: rest)) rfl (rest := rest) rfl (by rw [hb]; exact hdg) t
  simp only [arrV_size] at h1
  exact h1 st
theorem vx_daldZ {D : va_G} {cl : List vw_C} {ws : va_W} {tys : List (ClassId × FieldType)} {a : Nat} (hexec : p.tables.exec = Jvm.exec) (hb : c.code = cc) (hK : va_K D cl tys s) (hP : va_P D cl ws H) (q0 t0 : Nat) {cA : ClassId} {n : Nat} {f : Nat → UInt64} (ha : ws[q0]? = some (a, .inl (cA, n, .inr (.inr (.inr (.inl f)))))) (ht : tys[t0]? = some (cA, .double)) {i : Int32} (hout : ¬ vp_in i n) (hdg : decode cc pc = .ok (.daload, 1))
    (k : ∀ tx : String, tx = (toString "Index " ++ toString i ++ toString " out of bounds for length " ++ toString n : String) → vx_Note p l e R s m args below meth c H locs cells slots Q (F0 m pc ls rest) "java/lang/ArrayIndexOutOfBoundsException" tx) : W p l e R s m args below meth c H locs cells slots Q (F0 m pc ls (.int i :: .ref a :: rest)) := by
  intro T hT X
  obtain ⟨t, st, q⟩ := k _ rfl T hT X
  refine ⟨t, ?_, q⟩
  have h1 := X.daloadOut hexec (by rw [hT]; exact hP q0 _ ha) ((hK.2 t0 _ ht).1 n (fun j => .double (f j))) (j := i) (by show (i < 0 ∨ (arrV _ _ _).slots.size ≤ _); rw [arrV_size]; exact Classical.byContradiction hout) (g := F0 m pc ls (.int i :: .ref a :: rest)) rfl (rest := rest) rfl (by rw [hb]; exact hdg) t
  simp only [arrV_size] at h1
  exact h1 st
theorem vx_dastZ {D : va_G} {cl : List vw_C} {ws : va_W} {tys : List (ClassId × FieldType)} {a : Nat} (hexec : p.tables.exec = Jvm.exec) (hb : c.code = cc) (hK : va_K D cl tys s) (hP : va_P D cl ws H) (q0 t0 : Nat) {cA : ClassId} {n : Nat} {f : Nat → UInt64} (ha : ws[q0]? = some (a, .inl (cA, n, .inr (.inr (.inr (.inl f)))))) (ht : tys[t0]? = some (cA, .double)) {i : Int32} {x : UInt64} (hout : ¬ vp_in i n) (hdg : decode cc pc = .ok (.dastore, 1))
    (k : ∀ tx : String, tx = (toString "Index " ++ toString i ++ toString " out of bounds for length " ++ toString n : String) → vx_Note p l e R s m args below meth c H locs cells slots Q (F0 m pc ls rest) "java/lang/ArrayIndexOutOfBoundsException" tx) : W p l e R s m args below meth c H locs cells slots Q (F0 m pc ls (.double x :: .int i :: .ref a :: rest)) := by
  intro T hT X
  obtain ⟨t, st, q⟩ := k _ rfl T hT X
  refine ⟨t, ?_, q⟩
  have h1 := X.dastoreOut hexec (by rw [hT]; exact hP q0 _ ha) ((hK.2 t0 _ ht).1 n (fun j => .double (f j))) (j := i) (by show (i < 0 ∨ (arrV _ _ _).slots.size ≤ _); rw [arrV_size]; exact Classical.byContradiction hout) (g := F0 m pc ls (.double x :: .int i :: .ref a :: rest)) rfl (rest := rest) rfl (by rw [hb]; exact hdg) t
  simp only [arrV_size] at h1
  exact h1 st
theorem vx_arraylengthN (hexec : p.tables.exec = Jvm.exec) (hb : c.code = cc) (hdg : decode cc pc = .ok (.arraylength, 1)) (k : vx_NoteN p l e R s m args below meth c H locs cells slots Q (F0 m pc ls rest)) : W p l e R s m args below meth c H locs cells slots Q (F0 m pc ls (.null :: rest)) := by
  intro T hT X
  obtain ⟨t, st, q⟩ := k T hT X
  exact ⟨t, X.arraylengthNull hexec (g := F0 m pc ls (.null :: rest)) rfl (rest := rest) rfl (by rw [hb]; exact hdg) t st, q⟩
theorem vx_ialoadN (hexec : p.tables.exec = Jvm.exec) (hb : c.code = cc) {i : Int32} (hdg : decode cc pc = .ok (.iaload, 1)) (k : vx_NoteN p l e R s m args below meth c H locs cells slots Q (F0 m pc ls rest)) : W p l e R s m args below meth c H locs cells slots Q (F0 m pc ls (.int i :: .null :: rest)) := by
  intro T hT X
  obtain ⟨t, st, q⟩ := k T hT X
  exact ⟨t, X.ialoadNull hexec (g := F0 m pc ls (.int i :: .null :: rest)) rfl (rest := rest) rfl (by rw [hb]; exact hdg) t st, q⟩
theorem vx_laloadN (hexec : p.tables.exec = Jvm.exec) (hb : c.code = cc) {i : Int32} (hdg : decode cc pc = .ok (.laload, 1)) (k : vx_NoteN p l e R s m args below meth c H locs cells slots Q (F0 m pc ls rest)) : W p l e R s m args below meth c H locs cells slots Q (F0 m pc ls (.int i :: .null :: rest)) := by
  intro T hT X
  obtain ⟨t, st, q⟩ := k T hT X
  exact ⟨t, X.laloadNull hexec (g := F0 m pc ls (.int i :: .null :: rest)) rfl (rest := rest) rfl (by rw [hb]; exact hdg) t st, q⟩
theorem vx_faloadN (hexec : p.tables.exec = Jvm.exec) (hb : c.code = cc) {i : Int32} (hdg : decode cc pc = .ok (.faload, 1)) (k : vx_NoteN p l e R s m args below meth c H locs cells slots Q (F0 m pc ls rest)) : W p l e R s m args below meth c H locs cells slots Q (F0 m pc ls (.int i :: .null :: rest)) := by
  intro T hT X
  obtain ⟨t, st, q⟩ := k T hT X
  exact ⟨t, X.faloadNull hexec (g := F0 m pc ls (.int i :: .null :: rest)) rfl (rest := rest) rfl (by rw [hb]; exact hdg) t st, q⟩
theorem vx_daloadN (hexec : p.tables.exec = Jvm.exec) (hb : c.code = cc) {i : Int32} (hdg : decode cc pc = .ok (.daload, 1)) (k : vx_NoteN p l e R s m args below meth c H locs cells slots Q (F0 m pc ls rest)) : W p l e R s m args below meth c H locs cells slots Q (F0 m pc ls (.int i :: .null :: rest)) := by
  intro T hT X
  obtain ⟨t, st, q⟩ := k T hT X
  exact ⟨t, X.daloadNull hexec (g := F0 m pc ls (.int i :: .null :: rest)) rfl (rest := rest) rfl (by rw [hb]; exact hdg) t st, q⟩
theorem vx_aaloadN (hexec : p.tables.exec = Jvm.exec) (hb : c.code = cc) {i : Int32} (hdg : decode cc pc = .ok (.aaload, 1)) (k : vx_NoteN p l e R s m args below meth c H locs cells slots Q (F0 m pc ls rest)) : W p l e R s m args below meth c H locs cells slots Q (F0 m pc ls (.int i :: .null :: rest)) := by
  intro T hT X
  obtain ⟨t, st, q⟩ := k T hT X
  exact ⟨t, X.aaloadNull hexec (g := F0 m pc ls (.int i :: .null :: rest)) rfl (rest := rest) rfl (by rw [hb]; exact hdg) t st, q⟩
theorem vx_baloadN (hexec : p.tables.exec = Jvm.exec) (hb : c.code = cc) {i : Int32} (hdg : decode cc pc = .ok (.baload, 1)) (k : vx_NoteN p l e R s m args below meth c H locs cells slots Q (F0 m pc ls rest)) : W p l e R s m args below meth c H locs cells slots Q (F0 m pc ls (.int i :: .null :: rest)) := by
  intro T hT X
  obtain ⟨t, st, q⟩ := k T hT X
  exact ⟨t, X.baloadNull hexec (g := F0 m pc ls (.int i :: .null :: rest)) rfl (rest := rest) rfl (by rw [hb]; exact hdg) t st, q⟩
theorem vx_caloadN (hexec : p.tables.exec = Jvm.exec) (hb : c.code = cc) {i : Int32} (hdg : decode cc pc = .ok (.caload, 1)) (k : vx_NoteN p l e R s m args below meth c H locs cells slots Q (F0 m pc ls rest)) : W p l e R s m args below meth c H locs cells slots Q (F0 m pc ls (.int i :: .null :: rest)) := by
  intro T hT X
  obtain ⟨t, st, q⟩ := k T hT X
  exact ⟨t, X.caloadNull hexec (g := F0 m pc ls (.int i :: .null :: rest)) rfl (rest := rest) rfl (by rw [hb]; exact hdg) t st, q⟩
theorem vx_saloadN (hexec : p.tables.exec = Jvm.exec) (hb : c.code = cc) {i : Int32} (hdg : decode cc pc = .ok (.saload, 1)) (k : vx_NoteN p l e R s m args below meth c H locs cells slots Q (F0 m pc ls rest)) : W p l e R s m args below meth c H locs cells slots Q (F0 m pc ls (.int i :: .null :: rest)) := by
  intro T hT X
  obtain ⟨t, st, q⟩ := k T hT X
  exact ⟨t, X.saloadNull hexec (g := F0 m pc ls (.int i :: .null :: rest)) rfl (rest := rest) rfl (by rw [hb]; exact hdg) t st, q⟩
theorem vx_iastoreN (hexec : p.tables.exec = Jvm.exec) (hb : c.code = cc) {x : Int32} {i : Int32} (hdg : decode cc pc = .ok (.iastore, 1)) (k : vx_NoteN p l e R s m args below meth c H locs cells slots Q (F0 m pc ls rest)) : W p l e R s m args below meth c H locs cells slots Q (F0 m pc ls (.int x :: .int i :: .null :: rest)) := by
  intro T hT X
  obtain ⟨t, st, q⟩ := k T hT X
  exact ⟨t, X.iastoreNull hexec (g := F0 m pc ls (.int x :: .int i :: .null :: rest)) rfl (rest := rest) rfl (by rw [hb]; exact hdg) t st, q⟩
theorem vx_lastoreN (hexec : p.tables.exec = Jvm.exec) (hb : c.code = cc) {x : Int64} {i : Int32} (hdg : decode cc pc = .ok (.lastore, 1)) (k : vx_NoteN p l e R s m args below meth c H locs cells slots Q (F0 m pc ls rest)) : W p l e R s m args below meth c H locs cells slots Q (F0 m pc ls (.long x :: .int i :: .null :: rest)) := by
  intro T hT X
  obtain ⟨t, st, q⟩ := k T hT X
  exact ⟨t, X.lastoreNull hexec (g := F0 m pc ls (.long x :: .int i :: .null :: rest)) rfl (rest := rest) rfl (by rw [hb]; exact hdg) t st, q⟩
theorem vx_fastoreN (hexec : p.tables.exec = Jvm.exec) (hb : c.code = cc) {x : UInt32} {i : Int32} (hdg : decode cc pc = .ok (.fastore, 1)) (k : vx_NoteN p l e R s m args below meth c H locs cells slots Q (F0 m pc ls rest)) : W p l e R s m args below meth c H locs cells slots Q (F0 m pc ls (.float x :: .int i :: .null :: rest)) := by
  intro T hT X
  obtain ⟨t, st, q⟩ := k T hT X
  exact ⟨t, X.fastoreNull hexec (g := F0 m pc ls (.float x :: .int i :: .null :: rest)) rfl (rest := rest) rfl (by rw [hb]; exact hdg) t st, q⟩
theorem vx_dastoreN (hexec : p.tables.exec = Jvm.exec) (hb : c.code = cc) {x : UInt64} {i : Int32} (hdg : decode cc pc = .ok (.dastore, 1)) (k : vx_NoteN p l e R s m args below meth c H locs cells slots Q (F0 m pc ls rest)) : W p l e R s m args below meth c H locs cells slots Q (F0 m pc ls (.double x :: .int i :: .null :: rest)) := by
  intro T hT X
  obtain ⟨t, st, q⟩ := k T hT X
  exact ⟨t, X.dastoreNull hexec (g := F0 m pc ls (.double x :: .int i :: .null :: rest)) rfl (rest := rest) rfl (by rw [hb]; exact hdg) t st, q⟩
theorem vx_bastoreN (hexec : p.tables.exec = Jvm.exec) (hb : c.code = cc) {x : Int32} {i : Int32} (hdg : decode cc pc = .ok (.bastore, 1)) (k : vx_NoteN p l e R s m args below meth c H locs cells slots Q (F0 m pc ls rest)) : W p l e R s m args below meth c H locs cells slots Q (F0 m pc ls (.int x :: .int i :: .null :: rest)) := by
  intro T hT X
  obtain ⟨t, st, q⟩ := k T hT X
  exact ⟨t, X.bastoreNull hexec (g := F0 m pc ls (.int x :: .int i :: .null :: rest)) rfl (rest := rest) rfl (by rw [hb]; exact hdg) t st, q⟩
theorem vx_castoreN (hexec : p.tables.exec = Jvm.exec) (hb : c.code = cc) {x : Int32} {i : Int32} (hdg : decode cc pc = .ok (.castore, 1)) (k : vx_NoteN p l e R s m args below meth c H locs cells slots Q (F0 m pc ls rest)) : W p l e R s m args below meth c H locs cells slots Q (F0 m pc ls (.int x :: .int i :: .null :: rest)) := by
  intro T hT X
  obtain ⟨t, st, q⟩ := k T hT X
  exact ⟨t, X.castoreNull hexec (g := F0 m pc ls (.int x :: .int i :: .null :: rest)) rfl (rest := rest) rfl (by rw [hb]; exact hdg) t st, q⟩
theorem vx_sastoreN (hexec : p.tables.exec = Jvm.exec) (hb : c.code = cc) {x : Int32} {i : Int32} (hdg : decode cc pc = .ok (.sastore, 1)) (k : vx_NoteN p l e R s m args below meth c H locs cells slots Q (F0 m pc ls rest)) : W p l e R s m args below meth c H locs cells slots Q (F0 m pc ls (.int x :: .int i :: .null :: rest)) := by
  intro T hT X
  obtain ⟨t, st, q⟩ := k T hT X
  exact ⟨t, X.sastoreNull hexec (g := F0 m pc ls (.int x :: .int i :: .null :: rest)) rfl (rest := rest) rfl (by rw [hb]; exact hdg) t st, q⟩
theorem vx_invokeN {own C : String} {index maxL : Nat} {y : MethodName} {bytes : ByteArray} {ret : Option FieldType} (hexec : p.tables.exec = Jvm.exec) (hb : c.code = cc) (hown : s.vm.findClass own = some m.cls) (hlink : (Cond.methodLink own index y).before args s = true) (hinst : (Cond.instanceMethod y).before args s = true) (hcode : (Cond.code y bytes maxL ret).before args s = true) (hsel : (Cond.selects C y y).before args s = true)
    (hx : y.cls ≠ "java/lang/invoke/MethodHandle" ∧ y.cls ≠ "java/lang/invoke/VarHandle") {As : List Value} (hlen : (parseMethodDescriptor y.desc).map (fun d => d.parameters.length) = some As.length) (hdg : decode cc pc = .ok (.invokevirtual index, 3))
    (k : vx_NoteN p l e R s m args below meth c H locs cells slots Q (F0 m pc ls rest)) {st0 : List Value} (hst : st0 = As.reverse ++ .null :: rest) : W p l e R s m args below meth c H locs cells slots Q (F0 m pc ls st0) := by
  intro T hT X
  obtain ⟨r0, r, hn, hrm, hstR, hsigR⟩ := va_Decl.of hinst hcode
  obtain ⟨c2, r2, m2, q1, q2, q3, q4, kP, hkP, hkPi⟩ := Cond.selects_spec hsel
  cases hn.symm.trans q3
  have hl9 : As.length = r.sig.parameters.length := by
    rw [hsigR] at hlen
    exact (Option.some.inj hlen).symm
  obtain ⟨vm', X1, st1⟩ := X.invokevirtualNull hexec hown hlink hn hrm hstR hkP hkPi hx (g := F0 m pc ls st0) rfl (argsL := As) (rest := rest) hl9 hst (by rw [hb]; exact hdg)
  obtain ⟨t, st, q⟩ := k (T.setVm vm') hT X1
  exact ⟨t, st1 t st, q⟩
theorem vx_newarrayZ {atype : ArrayType} (hexec : p.tables.exec = Jvm.exec) (hb : c.code = cc) {n : Int32} (h0 : n < 0) (hdg : decode cc pc = .ok (.newarray atype, 2)) (k : ∀ tx : String, tx = toString n → vx_Note p l e R s m args below meth c H locs cells slots Q (F0 m pc ls rest) "java/lang/NegativeArraySizeException" tx) : W p l e R s m args below meth c H locs cells slots Q (F0 m pc ls (.int n :: rest)) := by
  intro T hT X
  obtain ⟨t, st, q⟩ := k _ rfl T hT X
  exact ⟨t, X.newarrayNegative hexec (g := F0 m pc ls (.int n :: rest)) rfl h0 (rest := rest) rfl (by rw [hb]; exact hdg) t st, q⟩
end
end VXM
/-! ===== END ===== -/
/-! ===== BEGIN an exception as an object: made, kept, thrown later (no traces kept) ===== -/
section VXK
variable {p : Program} {l : Launch} {e : Env} {R : Room} {s : State} {m₀ : MethodId} {args : Array Value} {below : List Frame} {meth : Method} {c : Code} {W : State} {locs : List Loc} {cells slots : Nat}
set_option maxHeartbeats 1000000 in
theorem vx_ctorMadeS (X : Stand p l e R s m₀ args below meth c W locs cells slots) (hexec : p.tables.exec = Jvm.exec) (htr : e.platform.stackTraces = false) {own cls : String} {names : List String} {ic : Nat}
    (hown : s.vm.findClass own = some m₀.cls) (hcls : Bundle.fit cls = true) (hnames : ∀ n ∈ names, Bundle.fit n = true)
    (h : ∀ a ∈ Bundle.ownAtoms own ic cls names, a.before args s = true)
    (hlocs : ∀ x ∈ locs, ∀ cell, s.heap[x.base]? = some cell → cell.vm.isStatics = false)
    {a : Addr} {cX : ClassId} {kX : Class} (hfoundX : s.vm.findClass cls = some cX) (hkX : s.vm.classes[cX]? = some kX) (hcell : W.heap[a]? = some (freshCell cX kX)) (hnew : s.heap.size ≤ a)
    {msg : Value} (hmsg : msg.isRef = true)
    {g : JFrame} (hg : g.method = m₀) (hsize : g.locals.size = c.maxLocals) {rest : List Value} (hstack : g.stack = msg :: .ref a :: .ref a :: rest)
    (hd6 : decode c.code g.pc = .ok (.invokespecial ic, 3))
    (hRframes : names.length + 3 < R.frames) (hRlocals : 2 * g.monitorRoom + ((Value.ref a :: rest).map fun v => v.category).sum + (13 * (names.length + 1) + 42) ≤ R.locals) :
    ∃ (V : State) (ce : Cell) (L : List Loc), Stand p l e R s m₀ args below meth c (V.setCell a ce) (locs ++ L) cells slots ∧ (∀ y ∈ L, y.base = a) ∧ a < V.heap.size ∧ ce.cls = cX ∧ ce.vm = .none ∧
      ∀ target, Steps p.tables e below ((V.setCell a ce).setTop { g with stack := .ref a :: rest, pc := g.pc + 3 }) target → Steps p.tables e below (W.setTop g) target := by
  have howns : e.platform.frameOwnsMonitors = true := by rw [X.admits.platform]
  have hfin : e.platform.finalization = false := by rw [X.admits.platform]
  have hpl : e.platform.magicAccessors = ({} : Platform).magicAccessors := by rw [X.admits.platform]
  have a' : ∀ x, x ∈ Bundle.ownAtoms own ic cls names → x.holds args s none s [] = true := fun x hx => h x hx
  obtain ⟨T, Z0, L, -, Y⟩ := ThrowableC.of_atoms (args := args) howns hfin hpl (fun x hx => h x (by simp [Bundle.ownAtoms, hx]))
  obtain ⟨Z, M, LZ, LM, hnZ⟩ := Init0T.ofS_atoms (args := args) hpl L Y (fun x hx => h x (by simp [Bundle.ownAtoms, hx]))
  obtain ⟨P1, Ps, hlen, L1, hL, hP1m, hlink1, hlink⟩ := Bundle.chainS (args := args) hpl hnZ names cls hcls hnames (fun x hx => h x (by simp [Bundle.ownAtoms, hx]))
  have hfound : s.vm.findClass cls = some P1.m.cls := findClass_of_methodNamed hP1m
  cases Option.some.inj (hfoundX.symm.trans hfound)
  obtain ⟨c1, kX', hc1, hk, hord, -, -, hn6⟩ := Cond.instantiable_spec (a' (.instantiable cls 6) (by simp [Bundle.ownAtoms]))
  cases Option.some.inj (hc1.symm.trans hfound)
  cases Option.some.inj (hkX.symm.trans hk)
  have hsel0 : selectMethod e.platform s.vm P1.m.cls T.fill0 = .method T.fill0 := by
    obtain ⟨c2, r2, m2, q1, q2, q3, q4, -⟩ := Cond.selects_spec (a' (.selects cls Bundle.tFill0 Bundle.tFill0) (by simp [Bundle.ownAtoms]))
    cases Option.some.inj (q1.symm.trans hfound)
    cases Option.some.inj (q2.symm.trans (State.methodFound?_of_named Y.fill0 (by decide)))
    cases Option.some.inj (q3.symm.trans Y.fill0)
    rw [Launch.admits_selectMethod X.admits]; exact q4
  have hselF : selectMethod e.platform s.vm P1.m.cls T.fill = .method T.fill := by
    obtain ⟨c2, r2, m2, q1, q2, q3, q4, -⟩ := Cond.selects_spec (a' (.selects cls Bundle.tFill Bundle.tFill) (by simp [Bundle.ownAtoms]))
    cases Option.some.inj (q1.symm.trans hfound)
    cases Option.some.inj (q2.symm.trans (State.methodFound?_of_named Y.fill (by decide)))
    cases Option.some.inj (q3.symm.trans Y.fill)
    rw [Launch.admits_selectMethod X.admits]; exact q4
  obtain ⟨cellS0, hcS0, hiss⟩ := Y.statics
  obtain ⟨u0, hu0⟩ := Cond.staticRefV Y.unassigned L.unassignedStatic L.statics hcS0 hiss (a' (.isRef (.static Bundle.tN "UNASSIGNED_STACK" Bundle.steD)) (by simp [Bundle.ownAtoms]))
  obtain ⟨sen, hsen⟩ := Cond.staticRefV Y.sentinel L.sentinelStatic L.statics hcS0 hiss (a' (.isRef (.static Bundle.tN "SUPPRESSED_SENTINEL" Bundle.listD)) (by simp [Bundle.ownAtoms]))
  obtain ⟨ci198, i198, fB, hk198, hg198, ha198, hsB, -, hnB, htB, hffB⟩ := Cond.ownField (t := .object "java/lang/Object") Y.found L.cls (by decide +kernel) (a' (.fieldLink Bundle.tN 198 Bundle.tN "backtrace" "Ljava/lang/Object;") (by simp [Bundle.ownAtoms])) (a' (.lays Bundle.tN Bundle.tN "backtrace" "Ljava/lang/Object;") (by simp [Bundle.ownAtoms])) e.platform hpl
  obtain ⟨cellS, hcS', heS, -, hkeep⟩ := X.same.2.2.2.2.2 T.aS cellS0 hcS0
  have hcellS : W.heap[T.aS]? = some cellS := hcS'
  have hout' : ∀ i, (⟨T.aS, i⟩ : Loc) ∉ locs := fun i hmem => by
    have := hlocs _ hmem cellS0 hcS0
    rw [hiss] at this; cases this
  have hknownS : cellS.vm ≠ .unknown := by
    rw [heS]; intro hu
    rw [show cellS0.vm = .unknown from hu] at hiss
    cases hiss
  have hneS : T.aS ≠ a := Nat.ne_of_lt (Nat.lt_of_lt_of_le (Array.getElem?_eq_some_iff.mp hcS0).1 hnew)
  obtain ⟨iM, hffM⟩ := Y.msg
  obtain ⟨tyC, dC, hdC, hdnC⟩ := Cond.laysAt hfound hk Y.cause (a' (.lays cls Bundle.tN "cause" "Ljava/lang/Throwable;") (by simp [Bundle.ownAtoms]))
  obtain ⟨tyS, dS, hdS, hdnS⟩ := Cond.laysAt hfound hk Y.stack (a' (.lays cls Bundle.tN "stackTrace" Bundle.steD) (by simp [Bundle.ownAtoms]))
  obtain ⟨tyP, dP, hdP, hdnP⟩ := Cond.laysAt hfound hk Y.supp (a' (.lays cls Bundle.tN "suppressedExceptions" Bundle.listD) (by simp [Bundle.ownAtoms]))
  obtain ⟨tyM, dM, hdM, hdnM⟩ := Cond.laysAt hfound hk hffM (a' (.lays cls Bundle.tN "detailMessage" "Ljava/lang/String;") (by simp [Bundle.ownAtoms]))
  obtain ⟨tyB, dB, hdB, hdnB⟩ := Cond.laysAt hfound hk hffB (a' (.lays cls Bundle.tN "backtrace" "Ljava/lang/Object;") (by simp [Bundle.ownAtoms]))
  have bC := Cond.laysApart hdB hdC hdnB hdnC (by rw [hnB, Y.causeName]; decide)
  have bS := Cond.laysApart hdB hdS hdnB hdnS (by rw [hnB, Y.stackName]; decide)
  have bP := Cond.laysApart hdB hdP hdnB hdnP (by rw [hnB, Y.suppName]; decide)
  have hskip : SkipFacts T e.platform s (fun u => u) u0 ((preparedCellV T.toThrowableT (freshCell P1.m.cls kX) a u0 sen).withEntry W.cur) :=
    ⟨{ ci198 := ci198, i198 := i198, fBack := fB }, ⟨hk198, hg198, ha198, hsB⟩, by
      have := fresh_default (c := P1.m.cls) tyB
      rw [htB] at this
      simpa [preparedCellV, Cell.setSlot, Cell.withEntry, Array.getElem?_setIfInBounds, bC, bS, bP, bC.symm, bS.symm, bP.symm, defaultValue] using this, fun _ _ => rfl⟩
  obtain ⟨tm, methC, cdC, kC, vm₁, hnC, -, -, -, -, -, -, -, hW₁, st1⟩ := Steps.initColdS (tb := p.tables) (e := e) (below := below) (s := s) (U := W) X.here hexec X.warmed hpl hown (t := Bundle.initS cls) rfl rfl (Bundle.fit_spec hcls).2
    (a' (.methodLink own ic (Bundle.initS cls)) (by simp [Bundle.ownAtoms])) (h (.instanceMethod (Bundle.initS cls)) (by cases names <;> simp [Bundle.ownAtoms, Bundle.chainSAtoms, Bundle.passSAtoms])) (bytes := Bundle.six) (maxL := 2) (h (.code (Bundle.initS cls) Bundle.six 2 none) (by cases names <;> simp [Bundle.ownAtoms, Bundle.chainSAtoms, Bundle.passSAtoms]))
    (f := g) hg (a := a) (msg := msg) (rest := .ref a :: rest) hstack hd6
  cases Option.some.inj (hnC.symm.trans hP1m)
  have X₁ := X.noted hW₁
  obtain ⟨vm₂, X₂, st2⟩ := X₁.ctorMessageOffV hexec (g := { g with stack := .ref a :: rest }) hg hsize T L Z LZ M LM (P1 :: Ps)
    (fun P hP => by rcases List.mem_cons.mp hP with rfl | hP; exact L1; exact hL P hP) ⟨hlink1, hlink⟩ (u0 := u0) (sen := sen) (self := a) hmsg (cell := freshCell P1.m.cls kX) (cellS := cellS)
    hcell (fun _ => by simp) (by simp) rfl rfl hsel0 hselF hcellS hneS hknownS (by rw [hkeep _ (hout' _)]; exact hu0) (by rw [hkeep _ (hout' _)]; exact hsen)
    (Takes.of_laid hk hord tyC (by rw [Y.causeType]; rfl)) (Takes.of_laid hk hord tyS (by rw [Y.stackType]; exact fits_refV_array _ u0)) (Takes.of_laid hk hord tyP (by rw [Y.suppType]; exact fits_refV_object _ sen))
    (Takes.of_laid hk hord tyM (by rw [Y.msgType]; exact fits_refV_object _ ⟨msg, hmsg⟩)) Y.objLocals hskip htr [] hd6
    (by simp only [List.length_cons, hlen]; omega) (by simp only [List.length_cons, hlen]; exact hRlocals)
  have hlt : a < ((W.setVm vm₁).setVm vm₂).heap.size := (Array.getElem?_eq_some_iff.mp hcell).1
  refine ⟨(W.setVm vm₁).setVm vm₂, _, _, X₂, fun y hy => ?_, hlt, rfl, rfl, fun target hwalk => st1 _ (fun acts => ?_)⟩
  · simp only [List.mem_cons, List.not_mem_nil, or_false] at hy
    rcases hy with rfl | rfl | rfl | rfl | rfl <;> rfl
  · rw [doInvoke_state]
    exact st2 _ hwalk
set_option maxHeartbeats 1000000 in
theorem vx_ctorMade0 (X : Stand p l e R s m₀ args below meth c W locs cells slots) (hexec : p.tables.exec = Jvm.exec) (htr : e.platform.stackTraces = false) {own cls : String} {names : List String} {ic : Nat}
    (hown : s.vm.findClass own = some m₀.cls) (hcls : Bundle.fit cls = true) (hnames : ∀ n ∈ names, Bundle.fit n = true)
    (h : ∀ a ∈ Bundle.ownAtoms0 own ic cls names, a.before args s = true)
    (hlocs : ∀ x ∈ locs, ∀ cell, s.heap[x.base]? = some cell → cell.vm.isStatics = false)
    {a : Addr} {cX : ClassId} {kX : Class} (hfoundX : s.vm.findClass cls = some cX) (hkX : s.vm.classes[cX]? = some kX) (hcell : W.heap[a]? = some (freshCell cX kX)) (hnew : s.heap.size ≤ a)
    {g : JFrame} (hg : g.method = m₀) (hsize : g.locals.size = c.maxLocals) {rest : List Value} (hstack : g.stack = .ref a :: .ref a :: rest)
    (hd6 : decode c.code g.pc = .ok (.invokespecial ic, 3))
    (hRframes : names.length + 3 < R.frames) (hRlocals : 2 * g.monitorRoom + ((Value.ref a :: rest).map fun v => v.category).sum + (13 * (names.length + 1) + 41) ≤ R.locals) :
    ∃ (V : State) (ce : Cell) (L : List Loc), Stand p l e R s m₀ args below meth c (V.setCell a ce) (locs ++ L) cells slots ∧ (∀ y ∈ L, y.base = a) ∧ a < V.heap.size ∧ ce.cls = cX ∧ ce.vm = .none ∧
      ∀ target, Steps p.tables e below ((V.setCell a ce).setTop { g with stack := .ref a :: rest, pc := g.pc + 3 }) target → Steps p.tables e below (W.setTop g) target := by
  have howns : e.platform.frameOwnsMonitors = true := by rw [X.admits.platform]
  have hfin : e.platform.finalization = false := by rw [X.admits.platform]
  have hpl : e.platform.magicAccessors = ({} : Platform).magicAccessors := by rw [X.admits.platform]
  have a' : ∀ x, x ∈ Bundle.ownAtoms0 own ic cls names → x.holds args s none s [] = true := fun x hx => h x hx
  obtain ⟨T, Z, L, LZ, Y⟩ := ThrowableC.of_atoms (args := args) howns hfin hpl (fun x hx => h x (by simp [Bundle.ownAtoms0, hx]))
  obtain ⟨P1, Ps, hlen, L1, hL, hP1m, hlink1, hlink⟩ := Bundle.chain0 (args := args) hpl Y.init0 names cls hcls hnames (fun x hx => h x (by simp [Bundle.ownAtoms0, hx]))
  have hfound : s.vm.findClass cls = some P1.m.cls := findClass_of_methodNamed hP1m
  cases Option.some.inj (hfoundX.symm.trans hfound)
  obtain ⟨c1, kX', hc1, hk, hord, -, -, hn6⟩ := Cond.instantiable_spec (a' (.instantiable cls 6) (by simp [Bundle.ownAtoms0]))
  cases Option.some.inj (hc1.symm.trans hfound)
  cases Option.some.inj (hkX.symm.trans hk)
  have hsel0 : selectMethod e.platform s.vm P1.m.cls T.fill0 = .method T.fill0 := by
    obtain ⟨c2, r2, m2, q1, q2, q3, q4, -⟩ := Cond.selects_spec (a' (.selects cls Bundle.tFill0 Bundle.tFill0) (by simp [Bundle.ownAtoms0]))
    cases Option.some.inj (q1.symm.trans hfound)
    cases Option.some.inj (q2.symm.trans (State.methodFound?_of_named Y.fill0 (by decide)))
    cases Option.some.inj (q3.symm.trans Y.fill0)
    rw [Launch.admits_selectMethod X.admits]; exact q4
  have hselF : selectMethod e.platform s.vm P1.m.cls T.fill = .method T.fill := by
    obtain ⟨c2, r2, m2, q1, q2, q3, q4, -⟩ := Cond.selects_spec (a' (.selects cls Bundle.tFill Bundle.tFill) (by simp [Bundle.ownAtoms0]))
    cases Option.some.inj (q1.symm.trans hfound)
    cases Option.some.inj (q2.symm.trans (State.methodFound?_of_named Y.fill (by decide)))
    cases Option.some.inj (q3.symm.trans Y.fill)
    rw [Launch.admits_selectMethod X.admits]; exact q4
  obtain ⟨cellS0, hcS0, hiss⟩ := Y.statics
  obtain ⟨u0, hu0⟩ := Cond.staticRefV Y.unassigned L.unassignedStatic L.statics hcS0 hiss (a' (.isRef (.static Bundle.tN "UNASSIGNED_STACK" Bundle.steD)) (by simp [Bundle.ownAtoms0]))
  obtain ⟨sen, hsen⟩ := Cond.staticRefV Y.sentinel L.sentinelStatic L.statics hcS0 hiss (a' (.isRef (.static Bundle.tN "SUPPRESSED_SENTINEL" Bundle.listD)) (by simp [Bundle.ownAtoms0]))
  obtain ⟨ci198, i198, fB, hk198, hg198, ha198, hsB, -, hnB, htB, hffB⟩ := Cond.ownField (t := .object "java/lang/Object") Y.found L.cls (by decide +kernel) (a' (.fieldLink Bundle.tN 198 Bundle.tN "backtrace" "Ljava/lang/Object;") (by simp [Bundle.ownAtoms0])) (a' (.lays Bundle.tN Bundle.tN "backtrace" "Ljava/lang/Object;") (by simp [Bundle.ownAtoms0])) e.platform hpl
  obtain ⟨cellS, hcS', heS, -, hkeep⟩ := X.same.2.2.2.2.2 T.aS cellS0 hcS0
  have hcellS : W.heap[T.aS]? = some cellS := hcS'
  have hout' : ∀ i, (⟨T.aS, i⟩ : Loc) ∉ locs := fun i hmem => by
    have := hlocs _ hmem cellS0 hcS0
    rw [hiss] at this; cases this
  have hknownS : cellS.vm ≠ .unknown := by
    rw [heS]; intro hu
    rw [show cellS0.vm = .unknown from hu] at hiss
    cases hiss
  have hneS : T.aS ≠ a := Nat.ne_of_lt (Nat.lt_of_lt_of_le (Array.getElem?_eq_some_iff.mp hcS0).1 hnew)
  obtain ⟨iM, hffM⟩ := Y.msg
  obtain ⟨tyC, dC, hdC, hdnC⟩ := Cond.laysAt hfound hk Y.cause (a' (.lays cls Bundle.tN "cause" "Ljava/lang/Throwable;") (by simp [Bundle.ownAtoms0]))
  obtain ⟨tyS, dS, hdS, hdnS⟩ := Cond.laysAt hfound hk Y.stack (a' (.lays cls Bundle.tN "stackTrace" Bundle.steD) (by simp [Bundle.ownAtoms0]))
  obtain ⟨tyP, dP, hdP, hdnP⟩ := Cond.laysAt hfound hk Y.supp (a' (.lays cls Bundle.tN "suppressedExceptions" Bundle.listD) (by simp [Bundle.ownAtoms0]))
  obtain ⟨tyM, dM, hdM, hdnM⟩ := Cond.laysAt hfound hk hffM (a' (.lays cls Bundle.tN "detailMessage" "Ljava/lang/String;") (by simp [Bundle.ownAtoms0]))
  obtain ⟨tyB, dB, hdB, hdnB⟩ := Cond.laysAt hfound hk hffB (a' (.lays cls Bundle.tN "backtrace" "Ljava/lang/Object;") (by simp [Bundle.ownAtoms0]))
  have bC := Cond.laysApart hdB hdC hdnB hdnC (by rw [hnB, Y.causeName]; decide)
  have bS := Cond.laysApart hdB hdS hdnB hdnS (by rw [hnB, Y.stackName]; decide)
  have bP := Cond.laysApart hdB hdP hdnB hdnP (by rw [hnB, Y.suppName]; decide)
  have hskip : SkipFacts T e.platform s (fun u => u) u0 ((preparedCellV T.toThrowableT (freshCell P1.m.cls kX) a u0 sen).withEntry W.cur) :=
    ⟨{ ci198 := ci198, i198 := i198, fBack := fB }, ⟨hk198, hg198, ha198, hsB⟩, by
      have := fresh_default (c := P1.m.cls) tyB
      rw [htB] at this
      simpa [preparedCellV, Cell.setSlot, Cell.withEntry, Array.getElem?_setIfInBounds, bC, bS, bP, bC.symm, bS.symm, bP.symm, defaultValue] using this, fun _ _ => rfl⟩
  obtain ⟨tm, methC, cdC, kC, vm₁, hnC, -, -, -, -, -, -, -, hW₁, st1⟩ := Steps.initCold (tb := p.tables) (e := e) (below := below) (s := s) (U := W) X.here hexec X.warmed hpl hown (t := Bundle.init0 cls) rfl rfl (Bundle.fit_spec hcls).2
    (a' (.methodLink own ic (Bundle.init0 cls)) (by simp [Bundle.ownAtoms0])) (h (.instanceMethod (Bundle.init0 cls)) (by cases names <;> simp [Bundle.ownAtoms0, Bundle.chain0Atoms, Bundle.passAtoms])) (bytes := Bundle.five) (maxL := 1) (h (.code (Bundle.init0 cls) Bundle.five 1 none) (by cases names <;> simp [Bundle.ownAtoms0, Bundle.chain0Atoms, Bundle.passAtoms]))
    (f := g) hg (a := a) (rest := .ref a :: rest) hstack hd6
  cases Option.some.inj (hnC.symm.trans hP1m)
  have X₁ := X.noted hW₁
  obtain ⟨vm₂, X₂, st2⟩ := X₁.ctorPlainOffV hexec (g := { g with stack := .ref a :: rest }) hg hsize T L Z LZ (P1 :: Ps)
    (fun P hP => by rcases List.mem_cons.mp hP with rfl | hP; exact L1; exact hL P hP) ⟨hlink1, hlink⟩ (u0 := u0) (sen := sen) (self := a) (cell := freshCell P1.m.cls kX) (cellS := cellS)
    hcell (fun _ => by simp) (by simp) rfl rfl hsel0 hselF hcellS hneS hknownS (by rw [hkeep _ (hout' _)]; exact hu0) (by rw [hkeep _ (hout' _)]; exact hsen)
    (Takes.of_laid hk hord tyC (by rw [Y.causeType]; rfl)) (Takes.of_laid hk hord tyS (by rw [Y.stackType]; exact fits_refV_array _ u0)) (Takes.of_laid hk hord tyP (by rw [Y.suppType]; exact fits_refV_object _ sen)) Y.objLocals hskip htr [] hd6
    (by simp only [List.length_cons, hlen]; omega) (by simp only [List.length_cons, hlen]; exact hRlocals)
  have hlt : a < ((W.setVm vm₁).setVm vm₂).heap.size := (Array.getElem?_eq_some_iff.mp hcell).1
  refine ⟨(W.setVm vm₁).setVm vm₂, _, _, X₂, fun y hy => ?_, hlt, rfl, rfl, fun target hwalk => st1 _ (fun acts => ?_)⟩
  · simp only [List.mem_cons, List.not_mem_nil, or_false] at hy
    rcases hy with rfl | rfl | rfl | rfl <;> rfl
  · rw [doInvoke_state]
    exact st2 _ hwalk
end VXK
section VXK2
variable {p : Program} {l : Launch} {e : Env} {R : Room} {s : State} {m : MethodId} {args : Array Value} {below : List Frame} {meth : Method} {c : Code} {H : Heap} {locs : List Loc} {cells slots : Nat} {Q : State → Prop}
variable {ls : Array Slot} {rest : List Value} {D : va_G} {cl : List vw_C} {tys : List (ClassId × FieldType)} {ws : va_W}
/-- 'new E("text")' that isn't thrown at once: the object goes on the stack -/
theorem vx_makeS {cc : ByteArray} {pc : Nat} (hexec : p.tables.exec = Jvm.exec) (hb : c.code = cc) (hl : l.stackTraces = false) {own cls text : String} {names : List String} {ik is ic sa ci : Nat} {A : Nat → Prop} {T0 : u_T}
    (hown : s.vm.findClass own = some m.cls) (hcls : Bundle.fit cls = true) (hnames : ∀ n ∈ names, Bundle.fit n = true)
    (hk : (Cond.classLink own ik cls).before args s = true) (hini : (Cond.initialized cls).before args s = true) (hstr : vk_R own is text sa s) (hat : ∀ w ∈ vx_atS own ic cls names, w.before args s = true)
    (hgood : ∀ w ∈ Cond.classLink own ik cls :: Cond.initialized cls :: vx_atS own ic cls names, vx_ot w = true)
    (hU : vx_Zq Bundle.tN "UNASSIGNED_STACK" Bundle.steD A s s.heap) (hN : vx_Zq Bundle.tN "SUPPRESSED_SENTINEL" Bundle.listD A s s.heap) (hS : va_S A s.heap H locs) (hsize : ls.size = c.maxLocals)
    (d0 : decode cc pc = .ok (.new ik, 3)) (d3 : decode cc (pc + 3) = .ok (.dup, 1)) (d4 : decode cc (pc + 4) = .ok (.ldc is, 2)) (d6 : decode cc (pc + 6) = .ok (.invokespecial ic, 3))
    (hK : va_K D cl tys s) (hP : va_P D cl ws H) (hD : va_D A ws) (hA : ∀ q, s.heap.size ≤ q → A q) (hc : cl[ci]? = some (cls, T0, 0))
    (hRframes : names.length + 3 < R.frames) (hRlocals : (rest.map fun v => v.category).sum + (13 * (names.length + 1) + 43) ≤ R.locals) (hRcells : cells + 1 ≤ R.cells) (hRslots : slots + 6 ≤ R.slots)
    (kk : ∀ (q : Nat) (H1 : Heap), va_P D cl (ws ++ [(q, .inr (ci, []))]) H1 → va_D A (ws ++ [(q, .inr (ci, []))]) → va_S A s.heap H1 locs → W p l e R s m args below meth c H1 locs (cells + 1) (slots + 6) Q (F0 m (pc + 9) ls (.ref q :: rest))) :
    W p l e R s m args below meth c H locs cells slots Q (F0 m pc ls rest) := by
  intro T hT X
  subst hT
  have htr : e.platform.stackTraces = false := (show e.platform.stackTraces = l.stackTraces by rw [X.admits.platform]).trans hl
  have Y := vx_rebase X (R' := { frames := R.frames, locals := R.locals, cells := 1, slots := 6 }) (Nat.le_refl _) (Nat.le_refl _) hRcells hRslots
  obtain ⟨s', hA'⟩ : ∃ z, z = (T.setVm s.vm).setFrames (.invoking m args :: below) := ⟨_, rfl⟩
  rw [← hA'] at Y
  have hvm : s'.vm = s.vm := by rw [hA']; rfl
  have hhp : s'.heap = T.heap := by rw [hA']; rfl
  have hW0 : s.WarmedH s'.vm := by rw [hvm]; exact State.WarmedH.refl s
  have hat' : ∀ w ∈ vx_atS own ic cls names, w.before args s' = true := fun w hw => vx_ot_at hW0 hvm.symm (hgood w (List.mem_cons_of_mem _ (List.mem_cons_of_mem _ hw))) (hat w hw)
  have hk' : (Cond.classLink own ik cls).before args s' = true := vx_ot_at hW0 hvm.symm (hgood _ List.mem_cons_self) hk
  have hini' : (Cond.initialized cls).before args s' = true := vx_ot_at hW0 hvm.symm (hgood _ (List.mem_cons_of_mem _ List.mem_cons_self)) hini
  have hU' : vx_Zq Bundle.tN "UNASSIGNED_STACK" Bundle.steD A s' s'.heap := by rw [hhp]; exact vx_Zq.moved hW0.alike (hU.kept hS.2.1)
  have hN' : vx_Zq Bundle.tN "SUPPRESSED_SENTINEL" Bundle.listD A s' s'.heap := by rw [hhp]; exact vx_Zq.moved hW0.alike (hN.kept hS.2.1)
  have h : ∀ w ∈ Bundle.ownAtoms own ic cls names, w.before args s' = true := vx_own hat' (vx_isRefq hU'.1) (vx_isRefq hN'.1) hU'.2.word hN'.2.word
  have hown' : s'.vm.findClass own = some m.cls := by rw [hvm]; exact hown
  have hins : (Cond.instantiable cls 6).before args s' = true := h _ (by simp [Bundle.ownAtoms])
  obtain ⟨vm₁, cX, kX, hfX, hkX, -, -, X₁, st1⟩ := Y.newCold hexec (own := own) (C := cls) (index := ik) (n := 6) hown' hk' hins hini'
    (g := F0 m pc ls rest) rfl (by rw [hb]; exact d0) (Nat.le_refl _) (Nat.le_refl _)
  generalize hT1 : (T.setVm vm₁).pushCell { cls := cX, slots := kX.instanceTypes.map defaultValue, vm := .none } = T1 at X₁ st1
  have hcat : (Value.ref T.heap.size).category = 1 := rfl
  have hcellA : T1.heap[T.heap.size]? = some (freshCell cX kX) := by rw [← hT1]; exact State.heap_pushCell_size _ _
  have d3' : decode c.code (pc + 3) = .ok (.dup, 1) := by rw [hb]; exact d3
  have d4' : decode c.code (pc + 4) = .ok (.ldc is, 2) := by rw [hb]; exact d4
  have hstr' : vk_R own is text sa s' := vk_R.warm hW0 hstr
  obtain ⟨V, ce, L, Z, hL, hlt, hcl9, hvm9, st⟩ := vx_ctorMadeS X₁ hexec htr (own := own) (cls := cls) (names := names) (ic := ic) hown' hcls hnames h (fun x hx => nomatch hx) hfX hkX hcellA (by rw [hhp]; exact Nat.le_refl _) (msg := .ref sa) rfl
    (g := { method := m, pc := pc + 6, locals := ls, stack := .ref sa :: .ref T.heap.size :: .ref T.heap.size :: rest, locked := none }) rfl hsize (rest := rest) rfl
    (by rw [hb]; exact d6) hRframes (by simp only [List.map_cons, List.sum_cons, hcat]; omega)
  have Z0 := Stand.forget (locs := []) Z (fun y hy => by rw [hL y hy, hhp]; exact Nat.le_refl _)
  obtain ⟨f1, f2⟩ := vx_frame Z0.same
  rw [hhp] at f1 f2
  have hcid : ce.cls = D.1 ci := by
    rw [hcl9]
    have h1 := (hK.1 ci _ hc).2.1
    rw [hvm] at hfX
    exact Option.some.inj (hfX.symm.trans h1)
  have hh : (V.setCell T.heap.size ce).heap[T.heap.size]? = some ce := heapAt_setCell_self (s := V) ce hlt
  subst hA'
  have X5 := vx_back9 X Y Z0
  have X6 : Stand p l e R s m args below meth c (V.setCell T.heap.size ce) locs (cells + 1) (slots + 6) := { X5 with same := X5.same.mono (by omega) (by omega) }
  have hk9 : ∀ (k : Nat) (x : Nat × va_E), ws[k]? = some x → (V.setCell T.heap.size ce).heap[x.1]? = T.heap[x.1]? := fun k x hx => f2 x.1 ((hP k x hx).lt) (fun z hz => nomatch hz)
  obtain ⟨t, a1, b1⟩ := kk T.heap.size (V.setCell T.heap.size ce).heap ((hP.kept hk9).app (fun k x hx => by
      have hz : k < 1 := (List.getElem?_eq_some_iff.mp hx).1
      rw [show k = 0 by omega] at hx
      cases hx
      exact ⟨_, hc, ce, hh, hcid, hvm9, fun k hk => absurd hk (Nat.not_lt_zero k)⟩)) (hD.push hP rfl (hA _ hS.1)) ⟨Nat.le_trans hS.1 f1, fun q h1 h2 => (f2 q (Nat.lt_of_lt_of_le h1 hS.1) (fun z hz => nomatch hz)).trans (hS.2.1 q h1 h2), hS.2.2⟩ _ rfl X6
  refine ⟨t, st1 _ ?_, b1⟩
  show Steps p.tables e below (T1.setTop { method := m, pc := pc + 3, locals := ls, stack := .ref T.heap.size :: rest, locked := none }) _
  jvm_step X₁.here [X₁.here.top, hexec, d3', Value.category]
  exact X₁.ldcString hexec (own := own) (text := text) (index := is) (a := sa) hown' hstr'.1 hstr'.2
    (g := { method := m, pc := pc + 4, locals := ls, stack := .ref T.heap.size :: .ref T.heap.size :: rest, locked := none }) rfl d4' _ (st _ a1)
/-- 'new E()' that isn't thrown at once: the object goes on the stack -/
theorem vx_make0 {cc : ByteArray} {pc : Nat} (hexec : p.tables.exec = Jvm.exec) (hb : c.code = cc) (hl : l.stackTraces = false) {own cls : String} {names : List String} {ik ic ci : Nat} {A : Nat → Prop} {T0 : u_T}
    (hown : s.vm.findClass own = some m.cls) (hcls : Bundle.fit cls = true) (hnames : ∀ n ∈ names, Bundle.fit n = true)
    (hk : (Cond.classLink own ik cls).before args s = true) (hini : (Cond.initialized cls).before args s = true) (hat : ∀ w ∈ vx_at0 own ic cls names, w.before args s = true)
    (hgood : ∀ w ∈ Cond.classLink own ik cls :: Cond.initialized cls :: vx_at0 own ic cls names, vx_ot w = true)
    (hU : vx_Zq Bundle.tN "UNASSIGNED_STACK" Bundle.steD A s s.heap) (hN : vx_Zq Bundle.tN "SUPPRESSED_SENTINEL" Bundle.listD A s s.heap) (hS : va_S A s.heap H locs) (hsize : ls.size = c.maxLocals)
    (d0 : decode cc pc = .ok (.new ik, 3)) (d3 : decode cc (pc + 3) = .ok (.dup, 1)) (d4 : decode cc (pc + 4) = .ok (.invokespecial ic, 3))
    (hK : va_K D cl tys s) (hP : va_P D cl ws H) (hD : va_D A ws) (hA : ∀ q, s.heap.size ≤ q → A q) (hc : cl[ci]? = some (cls, T0, 0))
    (hRframes : names.length + 3 < R.frames) (hRlocals : (rest.map fun v => v.category).sum + (13 * (names.length + 1) + 42) ≤ R.locals) (hRcells : cells + 1 ≤ R.cells) (hRslots : slots + 6 ≤ R.slots)
    (kk : ∀ (q : Nat) (H1 : Heap), va_P D cl (ws ++ [(q, .inr (ci, []))]) H1 → va_D A (ws ++ [(q, .inr (ci, []))]) → va_S A s.heap H1 locs → W p l e R s m args below meth c H1 locs (cells + 1) (slots + 6) Q (F0 m (pc + 7) ls (.ref q :: rest))) :
    W p l e R s m args below meth c H locs cells slots Q (F0 m pc ls rest) := by
  intro T hT X
  subst hT
  have htr : e.platform.stackTraces = false := (show e.platform.stackTraces = l.stackTraces by rw [X.admits.platform]).trans hl
  have Y := vx_rebase X (R' := { frames := R.frames, locals := R.locals, cells := 1, slots := 6 }) (Nat.le_refl _) (Nat.le_refl _) hRcells hRslots
  obtain ⟨s', hA'⟩ : ∃ z, z = (T.setVm s.vm).setFrames (.invoking m args :: below) := ⟨_, rfl⟩
  rw [← hA'] at Y
  have hvm : s'.vm = s.vm := by rw [hA']; rfl
  have hhp : s'.heap = T.heap := by rw [hA']; rfl
  have hW0 : s.WarmedH s'.vm := by rw [hvm]; exact State.WarmedH.refl s
  have hat' : ∀ w ∈ vx_at0 own ic cls names, w.before args s' = true := fun w hw => vx_ot_at hW0 hvm.symm (hgood w (List.mem_cons_of_mem _ (List.mem_cons_of_mem _ hw))) (hat w hw)
  have hk' : (Cond.classLink own ik cls).before args s' = true := vx_ot_at hW0 hvm.symm (hgood _ List.mem_cons_self) hk
  have hini' : (Cond.initialized cls).before args s' = true := vx_ot_at hW0 hvm.symm (hgood _ (List.mem_cons_of_mem _ List.mem_cons_self)) hini
  have hU' : vx_Zq Bundle.tN "UNASSIGNED_STACK" Bundle.steD A s' s'.heap := by rw [hhp]; exact vx_Zq.moved hW0.alike (hU.kept hS.2.1)
  have hN' : vx_Zq Bundle.tN "SUPPRESSED_SENTINEL" Bundle.listD A s' s'.heap := by rw [hhp]; exact vx_Zq.moved hW0.alike (hN.kept hS.2.1)
  have h : ∀ w ∈ Bundle.ownAtoms0 own ic cls names, w.before args s' = true := vx_own hat' (vx_isRefq hU'.1) (vx_isRefq hN'.1) hU'.2.word hN'.2.word
  have hown' : s'.vm.findClass own = some m.cls := by rw [hvm]; exact hown
  have hins : (Cond.instantiable cls 6).before args s' = true := h _ (by simp [Bundle.ownAtoms0])
  obtain ⟨vm₁, cX, kX, hfX, hkX, -, -, X₁, st1⟩ := Y.newCold hexec (own := own) (C := cls) (index := ik) (n := 6) hown' hk' hins hini'
    (g := F0 m pc ls rest) rfl (by rw [hb]; exact d0) (Nat.le_refl _) (Nat.le_refl _)
  generalize hT1 : (T.setVm vm₁).pushCell { cls := cX, slots := kX.instanceTypes.map defaultValue, vm := .none } = T1 at X₁ st1
  have hcat : (Value.ref T.heap.size).category = 1 := rfl
  have hcellA : T1.heap[T.heap.size]? = some (freshCell cX kX) := by rw [← hT1]; exact State.heap_pushCell_size _ _
  have d3' : decode c.code (pc + 3) = .ok (.dup, 1) := by rw [hb]; exact d3
  obtain ⟨V, ce, L, Z, hL, hlt, hcl9, hvm9, st⟩ := vx_ctorMade0 X₁ hexec htr (own := own) (cls := cls) (names := names) (ic := ic) hown' hcls hnames h (fun x hx => nomatch hx) hfX hkX hcellA (by rw [hhp]; exact Nat.le_refl _)
    (g := { method := m, pc := pc + 4, locals := ls, stack := .ref T.heap.size :: .ref T.heap.size :: rest, locked := none }) rfl hsize (rest := rest) rfl
    (by rw [hb]; exact d4) hRframes (by simp only [List.map_cons, List.sum_cons, hcat]; omega)
  have Z0 := Stand.forget (locs := []) Z (fun y hy => by rw [hL y hy, hhp]; exact Nat.le_refl _)
  obtain ⟨f1, f2⟩ := vx_frame Z0.same
  rw [hhp] at f1 f2
  have hcid : ce.cls = D.1 ci := by
    rw [hcl9]
    have h1 := (hK.1 ci _ hc).2.1
    rw [hvm] at hfX
    exact Option.some.inj (hfX.symm.trans h1)
  have hh : (V.setCell T.heap.size ce).heap[T.heap.size]? = some ce := heapAt_setCell_self (s := V) ce hlt
  subst hA'
  have X5 := vx_back9 X Y Z0
  have X6 : Stand p l e R s m args below meth c (V.setCell T.heap.size ce) locs (cells + 1) (slots + 6) := { X5 with same := X5.same.mono (by omega) (by omega) }
  have hk9 : ∀ (k : Nat) (x : Nat × va_E), ws[k]? = some x → (V.setCell T.heap.size ce).heap[x.1]? = T.heap[x.1]? := fun k x hx => f2 x.1 ((hP k x hx).lt) (fun z hz => nomatch hz)
  obtain ⟨t, a1, b1⟩ := kk T.heap.size (V.setCell T.heap.size ce).heap ((hP.kept hk9).app (fun k x hx => by
      have hz : k < 1 := (List.getElem?_eq_some_iff.mp hx).1
      rw [show k = 0 by omega] at hx
      cases hx
      exact ⟨_, hc, ce, hh, hcid, hvm9, fun k hk => absurd hk (Nat.not_lt_zero k)⟩)) (hD.push hP rfl (hA _ hS.1)) ⟨Nat.le_trans hS.1 f1, fun q h1 h2 => (f2 q (Nat.lt_of_lt_of_le h1 hS.1) (fun z hz => nomatch hz)).trans (hS.2.1 q h1 h2), hS.2.2⟩ _ rfl X6
  refine ⟨t, st1 _ ?_, b1⟩
  show Steps p.tables e below (T1.setTop { method := m, pc := pc + 3, locals := ls, stack := .ref T.heap.size :: rest, locked := none }) _
  jvm_step X₁.here [X₁.here.top, hexec, d3', Value.category]
  exact st _ a1
/-- 'throw x' of an object that was made before -/
theorem vx_athrow {cc : ByteArray} {pc : Nat} (hexec : p.tables.exec = Jvm.exec) (hb : c.code = cc) {q : Addr} (hdg : decode cc pc = .ok (.athrow, 1)) (k : vx_W p l e R s m args below meth c H locs cells slots Q (F0 m pc ls rest) q) : W p l e R s m args below meth c H locs cells slots Q (F0 m pc ls (.ref q :: rest)) := by
  intro T hT X
  obtain ⟨t, st, hq⟩ := k T hT X
  refine ⟨t, ?_, hq⟩
  have hdg' : decode c.code pc = .ok (.athrow, 1) := by rw [hb]; exact hdg
  jvm_step X.here [X.here.top, hexec, hdg', athrow.wp_sem]
  exact st
end VXK2
/-! ===== END ===== -/
/-! ===== BEGIN a constructor that throws (launches without stack traces) ===== -/
section VXIA
variable {p : Program} {l : Launch} {e : Env} {R : Room} {s : State} {m : MethodId} {args : Array Value} {below : List Frame} {meth : Method} {c : Code} {T : State} {locs : List Loc} {cells slots : Nat}
theorem vx_callI (X : Stand p l e R s m args below meth c T locs cells slots) (hexec : p.tables.exec = Jvm.exec) {own : String} {index : Nat} {y : MethodName} {bytes : ByteArray} {maxL : Nat}
    (hown : s.vm.findClass own = some m.cls) (hy1 : y.name = "<init>") (hlink : (Cond.methodLink own index y).before args s = true) (hinst : (Cond.instanceMethod y).before args s = true)
    (hcode : (Cond.code y bytes maxL none).before args s = true) (hy : y.cls ≠ "java/lang/invoke/MethodHandle" ∧ y.cls ≠ "java/lang/invoke/VarHandle")
    {W9 : Nat} {Pre : Pt → Array Value → Prop} {Post : Pt → Array Value → Option Value → Pt → Prop} {PostX : Pt → Array Value → Addr → Pt → Prop} (hK : vx_Back l R p e below s args y 3 W9 Pre Post PostX)
    {g : JFrame} (hg : g.method = m) (hsize : g.locals.size = c.maxLocals) {a : Addr} {argsL rest : List Value} (hlen : ∀ sig, parseMethodDescriptor y.desc = some sig → argsL.length = sig.parameters.length)
    (hstack : g.stack = argsL.reverse ++ .ref a :: rest) (hW : 2 * g.monitorRoom + (rest.map fun v => v.category).sum ≤ W9) (hdg : decode c.code g.pc = .ok (.invokespecial index, 3))
    (hpre : ∀ vm₁, s.WarmedH vm₁ → Pre ⟨T.setVm vm₁, locs, cells, slots⟩ (Value.ref a :: argsL).toArray) :
    (∃ (v : Option Value) (vm₁ : Vm) (B : Pt), s.WarmedH vm₁ ∧ Stand p l e R s m args below meth c B.U B.locs B.cells B.slots ∧ Post ⟨T.setVm vm₁, locs, cells, slots⟩ (Value.ref a :: argsL).toArray v B ∧
      ∀ target, Steps p.tables e below (B.U.setTop { g with pc := g.pc + 3, stack := v.toList ++ rest }) target → Steps p.tables e below (T.setTop g) target) ∨
    (∃ (q : Addr) (vm₁ : Vm) (B : Pt), s.WarmedH vm₁ ∧ Stand p l e R s m args below meth c B.U B.locs B.cells B.slots ∧ PostX ⟨T.setVm vm₁, locs, cells, slots⟩ (Value.ref a :: argsL).toArray q B ∧
      Steps p.tables e below (T.setTop g) ((B.U.setTop { g with stack := rest }).pushFrame (.throwing q))) := by
  subst hg
  have hpl : e.platform.magicAccessors = ({} : Platform).magicAccessors := by rw [X.admits.platform]
  obtain ⟨mk, methM, cM, kP, vm₁, hnamed, hmethM, hcodeM, -, hlocalsM, -, hkP, -, hW₁, hstep₁⟩ := Steps.initColdArgs (e := e) X.here hexec X.warmed hpl hown hy1 hy hlink hinst hcode (f := g) rfl hlen hstack hdg
  have X₁ := X.noted hW₁
  rcases hK g.method meth c ⟨T.setVm vm₁, locs, cells, slots⟩ { g with stack := rest } (.invokespecial index) mk (Value.ref a :: argsL).toArray X₁ rfl hsize hdg hW (X₁.named hnamed) (hpre vm₁ X₁.warmed) with ⟨v, B, X', hpost, hsteps⟩ | ⟨q, B, X', hpost, hsteps⟩
  · exact Or.inl ⟨v, vm₁, B, X₁.warmed, X', hpost, fun target h => hstep₁ _ fun acts => by rw [doInvoke_state]; exact hsteps.trans h⟩
  · exact Or.inr ⟨q, vm₁, B, X₁.warmed, X', hpost, hstep₁ _ fun acts => by rw [doInvoke_state]; exact hsteps⟩
end VXIA
section VXIB
variable {p : Program} {l : Launch} {e : Env} {R : Room} {s : State} {m : MethodId} {args : Array Value} {below : List Frame} {meth : Method} {c : Code} {H : Heap} {locs : List Loc} {cells slots : Nat}
variable {y : MethodName} {bytes cc : ByteArray} {maxL nL mc ms n index : Nat} {ret : Option FieldType} {ws : List Cond} {rm : Room} {Pc : Array Value → State → Prop} {Qc : Array Value → State → Outcome → State → Prop} {XC : String → State → State → Prop} {free : Addr → Prop} {Ts : List Cond} {own C : String} {b : Addr} {As rest : List Value} {g : JFrame}
theorem vx_runI (S : CallFix p m c cc nL s args Ts own) (hM : vx_Met l y ws rm Pc Qc XC mc ms free) (cw : CallB R s args own index y bytes maxL none ws rm mc ms n ∧ y.name = "<init>" ∧ (Cond.instanceMethod y).before args s = true) (hp : PreS s H Pc (.ref b :: As))
    (hg : g.method = m) (hn : As.length = n) (hsize : g.locals.size = nL) (hstack : g.stack = As.reverse ++ .ref b :: rest) (hW : 2 * g.monitorRoom + (rest.map fun v => v.category).sum ≤ 8) (hdg : decode cc g.pc = .ok (.invokespecial index, 3)) (hf : cells + mc ≤ R.cells ∧ slots + ms ≤ R.slots) :
    vx_Run p l e R s m args below meth c H locs cells slots mc ms g rest (Qc (Value.ref b :: As).toArray) XC free := by
  have hK : vx_Back l R p e below s args y 3 8 (PreOf R mc ms Pc) (PostOf Qc mc ms free) (vx_Post XC mc ms free) := vx_callBack cw.1 hM hp.1
  obtain ⟨⟨-, -, -, -, -, -, hcode, -, hy, hlen, hl⟩, hy1, hin⟩ := cw
  obtain ⟨hx, hb, hml, ho, -⟩ := S
  have hPc := hp.2
  intro T hT X
  rcases vx_callI X hx (bytes := bytes) (maxL := maxL) ho hy1 hl hin hcode hy hK hg (hsize.trans hml.symm) (a := b) (argsL := As) (rest := rest) (fun sig h => hn.trans (hlen sig h)) hstack hW (by rw [hb]; exact hdg)
    (fun vm₁ hW₁ => ⟨hf.1, hf.2, hPc (T.setVm vm₁) hT hW₁⟩) with ⟨v, vm₁, ⟨U', l2, c2, s2⟩, hW₁, X', ⟨g', mk, t, L, e1, e2, hq, h1, hL, h2, h3⟩, st⟩ | ⟨q, vm₁, ⟨U', l2, c2, s2⟩, hW₁, X', ⟨g', mk, t, L, E, ce, e1, e2, hq, hce, hcv, hcl, h1, hL, h2, h3⟩, st⟩
  · dsimp only [Pt.U, Pt.locs, Pt.cells, Pt.slots] at X' e1 e2 h1 h2 h3 st
    subst h1; subst h2; subst h3
    exact Or.inl ⟨v, (T.setVm vm₁).calling g' mk (Value.ref b :: As).toArray, t, U', L, hT, X', hL, e1, e2, hq, st⟩
  · dsimp only [Pt.U, Pt.locs, Pt.cells, Pt.slots] at X' e1 e2 h1 h2 h3 st hcl
    subst h1; subst h2; subst h3
    exact Or.inr ⟨q, (T.setVm vm₁).calling g' mk (Value.ref b :: As).toArray, t, U', L, E, ce, hT, X', hL, e1, e2, hq, hce, hcv, vx_cls hW₁ hcl, st⟩
end VXIB
/-! ===== END ===== -/
/-! ===== BEGIN a private constructor of a nest mate that throws ===== -/
section VXIC
variable {p : Program} {l : Launch} {e : Env} {R : Room} {s : State} {m : MethodId} {args : Array Value} {below : List Frame} {meth : Method} {c : Code} {T : State} {locs : List Loc} {cells slots : Nat}
theorem vx_callIN (X : Stand p l e R s m args below meth c T locs cells slots) (hexec : p.tables.exec = Jvm.exec) {own : String} {index : Nat} {host : String} {y : MethodName} {bytes : ByteArray} {maxL : Nat}
    (hown : s.vm.findClass own = some m.cls) (hy1 : y.name = "<init>") (hlink : (Cond.methodLinkNest own index y host).before args s = true) (hinst : (Cond.instanceMethod y).before args s = true)
    (hcode : (Cond.code y bytes maxL none).before args s = true) (hy : y.cls ≠ "java/lang/invoke/MethodHandle" ∧ y.cls ≠ "java/lang/invoke/VarHandle")
    {W9 : Nat} {Pre : Pt → Array Value → Prop} {Post : Pt → Array Value → Option Value → Pt → Prop} {PostX : Pt → Array Value → Addr → Pt → Prop} (hK : vx_Back l R p e below s args y 3 W9 Pre Post PostX)
    {g : JFrame} (hg : g.method = m) (hsize : g.locals.size = c.maxLocals) {a : Addr} {argsL rest : List Value} (hlen : ∀ sig, parseMethodDescriptor y.desc = some sig → argsL.length = sig.parameters.length)
    (hstack : g.stack = argsL.reverse ++ .ref a :: rest) (hW : 2 * g.monitorRoom + (rest.map fun v => v.category).sum ≤ W9) (hdg : decode c.code g.pc = .ok (.invokespecial index, 3))
    (hpre : ∀ vm₁, s.WarmedH vm₁ → Pre ⟨T.setVm vm₁, locs, cells, slots⟩ (Value.ref a :: argsL).toArray) :
    (∃ (v : Option Value) (vm₁ : Vm) (B : Pt), s.WarmedH vm₁ ∧ Stand p l e R s m args below meth c B.U B.locs B.cells B.slots ∧ Post ⟨T.setVm vm₁, locs, cells, slots⟩ (Value.ref a :: argsL).toArray v B ∧
      ∀ target, Steps p.tables e below (B.U.setTop { g with pc := g.pc + 3, stack := v.toList ++ rest }) target → Steps p.tables e below (T.setTop g) target) ∨
    (∃ (q : Addr) (vm₁ : Vm) (B : Pt), s.WarmedH vm₁ ∧ Stand p l e R s m args below meth c B.U B.locs B.cells B.slots ∧ PostX ⟨T.setVm vm₁, locs, cells, slots⟩ (Value.ref a :: argsL).toArray q B ∧
      Steps p.tables e below (T.setTop g) ((B.U.setTop { g with stack := rest }).pushFrame (.throwing q))) := by
  subst hg
  have hpl : e.platform.magicAccessors = ({} : Platform).magicAccessors := by rw [X.admits.platform]
  obtain ⟨mk, methM, cM, kP, vm₁, hnamed, hmethM, hcodeM, -, hlocalsM, -, hkP, -, hW₁, hstep₁⟩ := Steps.initColdArgsNest (e := e) X.here hexec X.warmed hpl hown hy1 hy hlink hinst hcode (f := g) rfl hlen hstack hdg
  have X₁ := X.noted hW₁
  rcases hK g.method meth c ⟨T.setVm vm₁, locs, cells, slots⟩ { g with stack := rest } (.invokespecial index) mk (Value.ref a :: argsL).toArray X₁ rfl hsize hdg hW (X₁.named hnamed) (hpre vm₁ X₁.warmed) with ⟨v, B, X', hpost, hsteps⟩ | ⟨q, B, X', hpost, hsteps⟩
  · exact Or.inl ⟨v, vm₁, B, X₁.warmed, X', hpost, fun target h => hstep₁ _ fun acts => by rw [doInvoke_state]; exact hsteps.trans h⟩
  · exact Or.inr ⟨q, vm₁, B, X₁.warmed, X', hpost, hstep₁ _ fun acts => by rw [doInvoke_state]; exact hsteps⟩
end VXIC
section VXID
variable {p : Program} {l : Launch} {e : Env} {R : Room} {s : State} {m : MethodId} {args : Array Value} {below : List Frame} {meth : Method} {c : Code} {H : Heap} {locs : List Loc} {cells slots : Nat}
theorem vx_runIN {y : MethodName} {bytes cc : ByteArray} {maxL nL mc ms n index : Nat} {ws : List Cond} {rm : Room} {Pc : Array Value → State → Prop} {Qc : Array Value → State → Outcome → State → Prop} {XC : String → State → State → Prop} {free : Addr → Prop} {Ts : List Cond} {own host : String} {b : Addr} {As rest : List Value} {g : JFrame}
    (S : CallFix p m c cc nL s args Ts own) (hM : vx_Met l y ws rm Pc Qc XC mc ms free) (cw : va_CN R s args own index y host bytes maxL none ws rm mc ms n ∧ y.name = "<init>" ∧ (Cond.instanceMethod y).before args s = true) (hp : PreS s H Pc (.ref b :: As))
    (hg : g.method = m) (hn : As.length = n) (hsize : g.locals.size = nL) (hstack : g.stack = As.reverse ++ .ref b :: rest) (hW : 2 * g.monitorRoom + (rest.map fun v => v.category).sum ≤ 8) (hdg : decode cc g.pc = .ok (.invokespecial index, 3)) (hf : cells + mc ≤ R.cells ∧ slots + ms ≤ R.slots) :
    vx_Run p l e R s m args below meth c H locs cells slots mc ms g rest (Qc (Value.ref b :: As).toArray) XC free := by
  obtain ⟨⟨⟨hrc, hrs, hfr, hlo, hws, hcw⟩, hcode, hini, hy, hlen, hl⟩, hx1, hx2⟩ := cw
  have hK : vx_Back l R p e below s args y 3 8 (PreOf R mc ms Pc) (PostOf Qc mc ms free) (vx_Post XC mc ms free) := vx_back (bytes := bytes) (maxL := maxL) (ret := none) hM hp.1 hrc hrs hfr hlo hws hcw (fun a' U hW => word_at hW (Or.inl (by first | rfl | simp [Cond.onTables, Cond.keeps, Cond.steady])) hini)
  obtain ⟨hx, hb, hml, ho, -⟩ := S
  have hPc := hp.2
  intro T hT X
  rcases vx_callIN X hx (bytes := bytes) (maxL := maxL) ho hx1 hl hx2 hcode hy hK hg (hsize.trans hml.symm) (a := b) (argsL := As) (rest := rest) (fun sig h => hn.trans (hlen sig h)) hstack hW (by rw [hb]; exact hdg)
    (fun vm₁ hW₁ => ⟨hf.1, hf.2, hPc (T.setVm vm₁) hT hW₁⟩) with ⟨v, vm₁, ⟨U', l2, c2, s2⟩, hW₁, X', ⟨g', mk, t, L, e1, e2, hq, h1, hL, h2, h3⟩, st⟩ | ⟨q, vm₁, ⟨U', l2, c2, s2⟩, hW₁, X', ⟨g', mk, t, L, E, ce, e1, e2, hq, hce, hcv, hcl, h1, hL, h2, h3⟩, st⟩
  · dsimp only [Pt.U, Pt.locs, Pt.cells, Pt.slots] at X' e1 e2 h1 h2 h3 st
    subst h1; subst h2; subst h3
    exact Or.inl ⟨v, (T.setVm vm₁).calling g' mk (Value.ref b :: As).toArray, t, U', L, hT, X', hL, e1, e2, hq, st⟩
  · dsimp only [Pt.U, Pt.locs, Pt.cells, Pt.slots] at X' e1 e2 h1 h2 h3 st hcl
    subst h1; subst h2; subst h3
    exact Or.inr ⟨q, (T.setVm vm₁).calling g' mk (Value.ref b :: As).toArray, t, U', L, E, ce, hT, X', hL, e1, e2, hq, hce, hcv, vx_cls hW₁ hcl, st⟩
end VXID
/-! ===== END ===== -/
/-! ===== BEGIN a method of a class above, found by the receiver, that may throw (follows va_callVU, va_runU of this kit) ===== -/
section
variable {p : Program} {l : Launch} {e : Env} {R : Room} {s : State} {m : MethodId} {args : Array Value} {below : List Frame} {meth : Method} {c : Code} {H : Heap} {locs : List Loc} {cells slots : Nat}
theorem vx_callVU {T : State} {locs : List Loc} {cells slots : Nat} (X : Stand p l e R s m args below meth c T locs cells slots) (hexec : p.tables.exec = Jvm.exec) {own C owner : String} {index : Nat} {x y : MethodName} {bytes : ByteArray} {maxL : Nat} {ret : Option FieldType}
    (hown : s.vm.findClass own = some m.cls) (hlink : (Cond.methodLink own index x).before args s = true) (hsame : (Cond.sameMethod x.cls owner x.name x.desc).before args s = true)
    (hd0 : va_Decl s ⟨owner, x.name, x.desc⟩) (howner : owner ≠ "java/lang/invoke/MethodHandle" ∧ owner ≠ "java/lang/invoke/VarHandle")
    (hsel : (Cond.selects C x y).before args s = true) (hinst : (Cond.instanceMethod y).before args s = true) (hcode : (Cond.code y bytes maxL ret).before args s = true)
    {W : Nat} {Pre : Pt → Array Value → Prop} {Post : Pt → Array Value → Option Value → Pt → Prop} {PostX : Pt → Array Value → Addr → Pt → Prop} (hK : vx_Back l R p e below s args y 3 W Pre Post PostX)
    {b : Addr} {cellB : Cell} (hcell : T.heap[b]? = some cellB) (hobj : cellB.vm.isStatics = false) (hcls : s.vm.findClass C = some cellB.cls)
    {g : JFrame} (hg : g.method = m) (hsize : g.locals.size = c.maxLocals) {argsL rest : List Value} (hlen : ∀ sig, parseMethodDescriptor x.desc = some sig → argsL.length = sig.parameters.length)
    (hstack : g.stack = argsL.reverse ++ .ref b :: rest) (hW : 2 * g.monitorRoom + (rest.map fun v => v.category).sum ≤ W) (hdg : decode c.code g.pc = .ok (.invokevirtual index, 3))
    (hpre : ∀ vm₁, s.WarmedH vm₁ → Pre ⟨T.setVm vm₁, locs, cells, slots⟩ (Value.ref b :: argsL).toArray) :
    (∃ (v : Option Value) (vm₁ : Vm) (B : Pt), s.WarmedH vm₁ ∧ Stand p l e R s m args below meth c B.U B.locs B.cells B.slots ∧ Post ⟨T.setVm vm₁, locs, cells, slots⟩ (Value.ref b :: argsL).toArray v B ∧
      ∀ target, Steps p.tables e below (B.U.setTop { g with pc := g.pc + 3, stack := v.toList ++ rest }) target → Steps p.tables e below (T.setTop g) target) ∨
    (∃ (q : Addr) (vm₁ : Vm) (B : Pt), s.WarmedH vm₁ ∧ Stand p l e R s m args below meth c B.U B.locs B.cells B.slots ∧ PostX ⟨T.setVm vm₁, locs, cells, slots⟩ (Value.ref b :: argsL).toArray q B ∧
      Steps p.tables e below (T.setTop g) ((B.U.setTop { g with stack := rest }).pushFrame (.throwing q))) := by
  obtain ⟨r0, r, hn, hrm, hstR, hsigR⟩ := hd0
  obtain ⟨cn, ck, r1, hcn, hck, hni, hf, hn1⟩ := Cond.sameMethod_found hsame
  cases hn.symm.trans hn1
  obtain ⟨mk, methM, hnamed, hmethM, -, habM⟩ := Cond.instanceMethod_spec hinst
  obtain ⟨c2, r2, m2, q1, q2, q3, q4, kP, hkP, hkPi⟩ := Cond.selects_spec hsel
  cases hcls.symm.trans q1
  cases hf.symm.trans q2
  cases hnamed.symm.trans q3
  have hselP : selectMethod e.platform s.vm cellB.cls r0 = .method mk := by rw [Launch.admits_selectMethod X.admits]; exact q4
  obtain ⟨vm₁, X₁, hstep₁⟩ := X.invokevirtualUp hexec hown hlink hsame howner hn hrm hstR (a := b) (cell := cellB) hcell
    (fun z h => by rw [h] at hobj; cases hobj) hselP hmethM habM hkP hkPi (g := g) hg (argsL := argsL) (rest := rest) (hlen _ hsigR) hstack hdg
  rcases hK m meth c ⟨T.setVm vm₁, locs, cells, slots⟩ { g with stack := rest } (.invokevirtual index) mk (Value.ref b :: argsL).toArray X₁ hg hsize hdg hW (X₁.named hnamed) (hpre vm₁ X₁.warmed) with ⟨v, B, X', hpost, hsteps⟩ | ⟨q, B, X', hpost, hsteps⟩
  · exact Or.inl ⟨v, vm₁, B, X₁.warmed, X', hpost, fun target h => hstep₁ _ fun acts => by rw [doInvoke_state]; exact hsteps.trans h⟩
  · exact Or.inr ⟨q, vm₁, B, X₁.warmed, X', hpost, hstep₁ _ fun acts => by rw [doInvoke_state]; exact hsteps⟩
theorem vx_runU {x y : MethodName} {bytes cc : ByteArray} {maxL nL mc ms n index : Nat} {ret : Option FieldType} {ws : List Cond} {rm : Room} {Pc : Array Value → State → Prop} {Qc : Array Value → State → Outcome → State → Prop} {XC : String → State → State → Prop} {free : Addr → Prop} {Ts : List Cond} {own C owner : String} {b : Addr} {As rest : List Value} {g : JFrame}
    (S : CallFix p m c cc nL s args Ts own) (hM : vx_Met l y ws rm Pc Qc XC mc ms free) (cw : va_CU R s args own C owner index x y bytes maxL ret ws rm mc ms n) (hp : PreV s H C b Pc As)
    (hg : g.method = m) (hn : As.length = n) (hsize : g.locals.size = nL) (hstack : g.stack = As.reverse ++ .ref b :: rest) (hW : 2 * g.monitorRoom + (rest.map fun v => v.category).sum ≤ 8) (hdg : decode cc g.pc = .ok (.invokevirtual index, 3)) (hf : cells + mc ≤ R.cells ∧ slots + ms ≤ R.slots) :
    vx_Run p l e R s m args below meth c H locs cells slots mc ms g rest (Qc (Value.ref b :: As).toArray) XC free := by
  obtain ⟨hrc, hrs, hfr, hlo, hws, hcw⟩ := cw.back
  have hini := cw.init
  have hK : vx_Back l R p e below s args y 3 8 (PreOf R mc ms Pc) (PostOf Qc mc ms free) (vx_Post XC mc ms free) := vx_back (bytes := bytes) (maxL := maxL) (ret := ret) hM hp.1 hrc hrs hfr hlo hws hcw (fun a' U hW => word_at hW (Or.inl (by first | rfl | simp [Cond.onTables, Cond.keeps, Cond.steady])) hini)
  obtain ⟨hx, hb, hml, ho, -⟩ := S
  obtain ⟨-, ⟨cellB, hcB, hoB, hclB⟩, hPc⟩ := hp
  intro T hT X
  rcases vx_callVU X hx (C := C) (owner := owner) (bytes := bytes) (maxL := maxL) (ret := ret) ho cw.link cw.same cw.decl cw.notMH cw.sel cw.inst cw.code hK (by rw [hT]; exact hcB) hoB hclB hg (hsize.trans hml.symm) (argsL := As) (rest := rest) (fun sig h => hn.trans (cw.len sig h)) hstack hW (by rw [hb]; exact hdg)
    (fun vm₁ hW₁ => ⟨hf.1, hf.2, hPc (T.setVm vm₁) hT hW₁⟩) with ⟨v, vm₁, ⟨U', l2, c2, s2⟩, hW₁, X', ⟨g', mk, t, L, e1, e2, hq, h1, hL, h2, h3⟩, st⟩ | ⟨q, vm₁, ⟨U', l2, c2, s2⟩, hW₁, X', ⟨g', mk, t, L, E, ce, e1, e2, hq, hce, hcv, hcl, h1, hL, h2, h3⟩, st⟩
  · dsimp only [Pt.U, Pt.locs, Pt.cells, Pt.slots] at X' e1 e2 h1 h2 h3 st
    subst h1; subst h2; subst h3
    exact Or.inl ⟨v, (T.setVm vm₁).calling g' mk (Value.ref b :: As).toArray, t, U', L, hT, X', hL, e1, e2, hq, st⟩
  · dsimp only [Pt.U, Pt.locs, Pt.cells, Pt.slots] at X' e1 e2 h1 h2 h3 st hcl
    subst h1; subst h2; subst h3
    exact Or.inr ⟨q, (T.setVm vm₁).calling g' mk (Value.ref b :: As).toArray, t, U', L, E, ce, hT, X', hL, e1, e2, hq, hce, hcv, vx_cls hW₁ hcl, st⟩
end
/-! ===== END ===== -/
/-! ===== BEGIN super.m(..) that may throw (follows va_callSU, va_runSU) ===== -/
section
variable {p : Program} {l : Launch} {e : Env} {R : Room} {s : State} {m : MethodId} {args : Array Value} {below : List Frame} {meth : Method} {c : Code} {H : Heap} {locs : List Loc} {cells slots : Nat}
theorem vx_callSU {T : State} {locs : List Loc} {cells slots : Nat} (X : Stand p l e R s m args below meth c T locs cells slots) (hexec : p.tables.exec = Jvm.exec) {own : String} {index : Nat} {y : MethodName} {bytes : ByteArray} {maxL : Nat} {ret : Option FieldType}
    (hown : s.vm.findClass own = some m.cls) (hlink : (Cond.methodLink own index y).before args s = true) (hsame : (Cond.sameMethod y.cls y.cls y.name y.desc).before args s = true) (hsup : (Cond.superclass own y.cls).before args s = true)
    (hinst : (Cond.instanceMethod y).before args s = true) (hcode : (Cond.code y bytes maxL ret).before args s = true) (hno : y.name ≠ "<init>")
    {W : Nat} {Pre : Pt → Array Value → Prop} {Post : Pt → Array Value → Option Value → Pt → Prop} {PostX : Pt → Array Value → Addr → Pt → Prop} (hK : vx_Back l R p e below s args y 3 W Pre Post PostX)
    {b : Addr} {cellB : Cell} {kB : Class} (hcell : T.heap[b]? = some cellB) (hobj : cellB.vm.isStatics = false) (hkB : s.vm.classes[cellB.cls]? = some kB)
    {g : JFrame} (hg : g.method = m) (hsize : g.locals.size = c.maxLocals) {argsL rest : List Value} (hlen : ∀ sig, parseMethodDescriptor y.desc = some sig → argsL.length = sig.parameters.length)
    (hstack : g.stack = argsL.reverse ++ .ref b :: rest) (hW : 2 * g.monitorRoom + (rest.map fun v => v.category).sum ≤ W) (hdg : decode c.code g.pc = .ok (.invokespecial index, 3))
    (hpre : ∀ vm₁, s.WarmedH vm₁ → Pre ⟨T.setVm vm₁, locs, cells, slots⟩ (Value.ref b :: argsL).toArray) :
    (∃ (v : Option Value) (vm₁ : Vm) (B : Pt), s.WarmedH vm₁ ∧ Stand p l e R s m args below meth c B.U B.locs B.cells B.slots ∧ Post ⟨T.setVm vm₁, locs, cells, slots⟩ (Value.ref b :: argsL).toArray v B ∧
      ∀ target, Steps p.tables e below (B.U.setTop { g with pc := g.pc + 3, stack := v.toList ++ rest }) target → Steps p.tables e below (T.setTop g) target) ∨
    (∃ (q : Addr) (vm₁ : Vm) (B : Pt), s.WarmedH vm₁ ∧ Stand p l e R s m args below meth c B.U B.locs B.cells B.slots ∧ PostX ⟨T.setVm vm₁, locs, cells, slots⟩ (Value.ref b :: argsL).toArray q B ∧
      Steps p.tables e below (T.setTop g) ((B.U.setTop { g with stack := rest }).pushFrame (.throwing q))) := by
  obtain ⟨mk, methM, hnamed, hmethM, hstM, habM⟩ := Cond.instanceMethod_spec hinst
  obtain ⟨methM', cM, hmethM', -, -, -, -, -, -, hsigM⟩ := Cond.code_spec hnamed hcode
  cases hmethM.symm.trans hmethM'
  obtain ⟨ps, dk, kp, hps, hdk, hkp, hsuper, -, -, hnid⟩ := Cond.superclass_spec hown hsup
  have hn : s.methodNamed? ⟨y.cls, y.name, y.desc⟩ = some mk := hnamed
  have hpm : ps = mk.cls := Option.some.inj (hps.symm.trans (findClass_of_methodNamed hnamed))
  have hsub : s.vm.isSubclass ps mk.cls = true := by rw [hpm]; simp [Vm.isSubclass, Vm.isSubclassAux]
  obtain ⟨vm₁, X₁, hstep₁⟩ := X.invokespecialUp hexec hown hlink hsame hn hmethM hstM habM hno hdk hnid hps hsuper hsub (a := b) (cell := cellB) hcell
    (fun z h => by rw [h] at hobj; cases hobj) hkB (g := g) hg (argsL := argsL) (rest := rest) (hlen _ hsigM) hstack hdg
  rcases hK m meth c ⟨T.setVm vm₁, locs, cells, slots⟩ { g with stack := rest } (.invokespecial index) mk (Value.ref b :: argsL).toArray X₁ hg hsize hdg hW (X₁.named hnamed) (hpre vm₁ X₁.warmed) with ⟨v, B, X', hpost, hsteps⟩ | ⟨q, B, X', hpost, hsteps⟩
  · exact Or.inl ⟨v, vm₁, B, X₁.warmed, X', hpost, fun target h => hstep₁ _ (by rw [doInvoke_state]; exact hsteps.trans h)⟩
  · exact Or.inr ⟨q, vm₁, B, X₁.warmed, X', hpost, hstep₁ _ (by rw [doInvoke_state]; exact hsteps)⟩
theorem vx_runSU {y : MethodName} {bytes cc : ByteArray} {maxL nL mc ms n index : Nat} {ret : Option FieldType} {ws : List Cond} {rm : Room} {Pc : Array Value → State → Prop} {Qc : Array Value → State → Outcome → State → Prop} {XC : String → State → State → Prop} {free : Addr → Prop} {Ts : List Cond} {own C : String} {cC : ClassId} {b : Addr} {As rest : List Value} {g : JFrame}
    (hat : ClassAt s C cC) (S : CallFix p m c cc nL s args Ts own) (hM : vx_Met l y ws rm Pc Qc XC mc ms free) (cw : va_CS R s args own index y bytes maxL ret ws rm mc ms n) (hp : PreV s H C b Pc As)
    (hg : g.method = m) (hn : As.length = n) (hsize : g.locals.size = nL) (hstack : g.stack = As.reverse ++ .ref b :: rest) (hW : 2 * g.monitorRoom + (rest.map fun v => v.category).sum ≤ 8) (hdg : decode cc g.pc = .ok (.invokespecial index, 3)) (hf : cells + mc ≤ R.cells ∧ slots + ms ≤ R.slots) :
    vx_Run p l e R s m args below meth c H locs cells slots mc ms g rest (Qc (Value.ref b :: As).toArray) XC free := by
  obtain ⟨⟨hrc, hrs, hfr, hlo, hws, hcw⟩, hl1, hl2, hl3, hl4, hini, hcode, hno, hlen⟩ := cw
  have hK : vx_Back l R p e below s args y 3 8 (PreOf R mc ms Pc) (PostOf Qc mc ms free) (vx_Post XC mc ms free) := vx_back (bytes := bytes) (maxL := maxL) (ret := ret) hM hp.1 hrc hrs hfr hlo hws hcw (fun a' U hW => word_at hW (Or.inl (by first | rfl | simp [Cond.onTables, Cond.keeps, Cond.steady])) hini)
  obtain ⟨hx, hb, hml, ho, -⟩ := S
  obtain ⟨-, ⟨cellB, hcB, hoB, hclB⟩, hPc⟩ := hp
  obtain ⟨hfc, kB, hkB, -⟩ := hat
  cases hfc.symm.trans hclB
  intro T hT X
  rcases vx_callSU X hx (bytes := bytes) (maxL := maxL) (ret := ret) ho hl1 hl2 hl3 hl4 hcode hno hK (by rw [hT]; exact hcB) hoB hkB hg (hsize.trans hml.symm) (argsL := As) (rest := rest) (fun sig h => hn.trans (hlen sig h)) hstack hW (by rw [hb]; exact hdg)
    (fun vm₁ hW₁ => ⟨hf.1, hf.2, hPc (T.setVm vm₁) hT hW₁⟩) with ⟨v, vm₁, ⟨U', l2, c2, s2⟩, hW₁, X', ⟨g', mk, t, L, e1, e2, hq, h1, hL, h2, h3⟩, st⟩ | ⟨q, vm₁, ⟨U', l2, c2, s2⟩, hW₁, X', ⟨g', mk, t, L, E, ce, e1, e2, hq, hce, hcv, hcl, h1, hL, h2, h3⟩, st⟩
  · dsimp only [Pt.U, Pt.locs, Pt.cells, Pt.slots] at X' e1 e2 h1 h2 h3 st
    subst h1; subst h2; subst h3
    exact Or.inl ⟨v, (T.setVm vm₁).calling g' mk (Value.ref b :: As).toArray, t, U', L, hT, X', hL, e1, e2, hq, st⟩
  · dsimp only [Pt.U, Pt.locs, Pt.cells, Pt.slots] at X' e1 e2 h1 h2 h3 st hcl
    subst h1; subst h2; subst h3
    exact Or.inr ⟨q, (T.setVm vm₁).calling g' mk (Value.ref b :: As).toArray, t, U', L, E, ce, hT, X', hL, e1, e2, hq, hce, hcv, vx_cls hW₁ hcl, st⟩
end
/-! ===== END ===== -/
/-! ===== BEGIN a private method of a nest mate that may throw (follows va_callVN, va_callSN, va_runVN, va_runSN) ===== -/
section
variable {p : Program} {l : Launch} {e : Env} {R : Room} {s : State} {m : MethodId} {args : Array Value} {below : List Frame} {meth : Method} {c : Code} {H : Heap} {locs : List Loc} {cells slots : Nat}
variable {T : State}
theorem vx_callVN (X : Stand p l e R s m args below meth c T locs cells slots) (hexec : p.tables.exec = Jvm.exec) {own C : String} {index : Nat} {host : String} {y : MethodName} {bytes : ByteArray} {maxL : Nat} {ret : Option FieldType}
    (hown : s.vm.findClass own = some m.cls) (hlink : (Cond.methodLinkNest own index y host).before args s = true) (hinst : (Cond.instanceMethod y).before args s = true) (hsel : (Cond.selects C y y).before args s = true)
    (hcode : (Cond.code y bytes maxL ret).before args s = true) (hy : y.cls ≠ "java/lang/invoke/MethodHandle" ∧ y.cls ≠ "java/lang/invoke/VarHandle")
    {W : Nat} {Pre : Pt → Array Value → Prop} {Post : Pt → Array Value → Option Value → Pt → Prop} {PostX : Pt → Array Value → Addr → Pt → Prop} (hK : vx_Back l R p e below s args y 3 W Pre Post PostX)
    {b : Addr} {cellB : Cell} (hcell : T.heap[b]? = some cellB) (hobj : cellB.vm.isStatics = false) (hcls : s.vm.findClass C = some cellB.cls)
    {g : JFrame} (hg : g.method = m) (hsize : g.locals.size = c.maxLocals) {argsL rest : List Value} (hlen : ∀ sig, parseMethodDescriptor y.desc = some sig → argsL.length = sig.parameters.length)
    (hstack : g.stack = argsL.reverse ++ .ref b :: rest) (hW : 2 * g.monitorRoom + (rest.map fun v => v.category).sum ≤ W) (hdg : decode c.code g.pc = .ok (.invokevirtual index, 3))
    (hpre : ∀ vm₁, s.WarmedH vm₁ → Pre ⟨T.setVm vm₁, locs, cells, slots⟩ (Value.ref b :: argsL).toArray) :
    (∃ (v : Option Value) (vm₁ : Vm) (B : Pt), s.WarmedH vm₁ ∧ Stand p l e R s m args below meth c B.U B.locs B.cells B.slots ∧ Post ⟨T.setVm vm₁, locs, cells, slots⟩ (Value.ref b :: argsL).toArray v B ∧
      ∀ target, Steps p.tables e below (B.U.setTop { g with pc := g.pc + 3, stack := v.toList ++ rest }) target → Steps p.tables e below (T.setTop g) target) ∨
    (∃ (q : Addr) (vm₁ : Vm) (B : Pt), s.WarmedH vm₁ ∧ Stand p l e R s m args below meth c B.U B.locs B.cells B.slots ∧ PostX ⟨T.setVm vm₁, locs, cells, slots⟩ (Value.ref b :: argsL).toArray q B ∧
      Steps p.tables e below (T.setTop g) ((B.U.setTop { g with stack := rest }).pushFrame (.throwing q))) := by
  obtain ⟨mk, methM, hnamed, hmethM, hstM, habM⟩ := Cond.instanceMethod_spec hinst
  obtain ⟨methM', cM, hmethM', -, -, -, -, -, -, hsigM⟩ := Cond.code_spec hnamed hcode
  cases hmethM.symm.trans hmethM'
  obtain ⟨c2, r2, m2, q1, q2, q3, q4, kP, hkP, hkPi⟩ := Cond.selects_spec hsel
  cases hcls.symm.trans q1
  cases (State.methodFound?_of_named hnamed hy).symm.trans q2
  cases hnamed.symm.trans q3
  have hselP : selectMethod e.platform s.vm cellB.cls mk = .method mk := by rw [Launch.admits_selectMethod X.admits]; exact q4
  obtain ⟨vm₁, X₁, hstep₁⟩ := X.invokevirtualNest hexec hown hlink hnamed hmethM hstM hkP hkPi hy (a := b) (cell := cellB) hcell
    (fun z h => by rw [h] at hobj; cases hobj) hselP hmethM habM hkP hkPi (g := g) hg (argsL := argsL) (rest := rest) (hlen _ hsigM) hstack hdg
  rcases hK m meth c ⟨T.setVm vm₁, locs, cells, slots⟩ { g with stack := rest } (.invokevirtual index) mk (Value.ref b :: argsL).toArray X₁ hg hsize hdg hW (X₁.named hnamed) (hpre vm₁ X₁.warmed) with ⟨v, B, X', hpost, hsteps⟩ | ⟨q, B, X', hpost, hsteps⟩
  · exact Or.inl ⟨v, vm₁, B, X₁.warmed, X', hpost, fun target h => hstep₁ _ fun acts => by rw [doInvoke_state]; exact hsteps.trans h⟩
  · exact Or.inr ⟨q, vm₁, B, X₁.warmed, X', hpost, hstep₁ _ fun acts => by rw [doInvoke_state]; exact hsteps⟩
theorem vx_callSN (X : Stand p l e R s m args below meth c T locs cells slots) (hexec : p.tables.exec = Jvm.exec) {own : String} {index : Nat} {host : String} {y : MethodName} {bytes : ByteArray} {maxL : Nat} {ret : Option FieldType}
    (hown : s.vm.findClass own = some m.cls) (hlink : (Cond.methodLinkNest own index y host).before args s = true) (hstat : (Cond.static y).before args s = true) (hinit : (Cond.initialized y.cls).before args s = true)
    (hcode : (Cond.code y bytes maxL ret).before args s = true) (hy : y.cls ≠ "java/lang/invoke/MethodHandle" ∧ y.cls ≠ "java/lang/invoke/VarHandle")
    {W : Nat} {Pre : Pt → Array Value → Prop} {Post : Pt → Array Value → Option Value → Pt → Prop} {PostX : Pt → Array Value → Addr → Pt → Prop} (hK : vx_Back l R p e below s args y 3 W Pre Post PostX)
    {g : JFrame} (hg : g.method = m) (hsize : g.locals.size = c.maxLocals) {argsL rest : List Value} (hlen : ∀ sig, parseMethodDescriptor y.desc = some sig → argsL.length = sig.parameters.length)
    (hstack : g.stack = argsL.reverse ++ rest) (hW : 2 * g.monitorRoom + (rest.map fun v => v.category).sum ≤ W) (hdg : decode c.code g.pc = .ok (.invokestatic index, 3))
    (hpre : ∀ vm₁, s.WarmedH vm₁ → Pre ⟨T.setVm vm₁, locs, cells, slots⟩ argsL.toArray) :
    (∃ (v : Option Value) (vm₁ : Vm) (B : Pt), s.WarmedH vm₁ ∧ Stand p l e R s m args below meth c B.U B.locs B.cells B.slots ∧ Post ⟨T.setVm vm₁, locs, cells, slots⟩ argsL.toArray v B ∧
      ∀ target, Steps p.tables e below (B.U.setTop { g with pc := g.pc + 3, stack := v.toList ++ rest }) target → Steps p.tables e below (T.setTop g) target) ∨
    (∃ (q : Addr) (vm₁ : Vm) (B : Pt), s.WarmedH vm₁ ∧ Stand p l e R s m args below meth c B.U B.locs B.cells B.slots ∧ PostX ⟨T.setVm vm₁, locs, cells, slots⟩ argsL.toArray q B ∧
      Steps p.tables e below (T.setTop g) ((B.U.setTop { g with stack := rest }).pushFrame (.throwing q))) := by
  obtain ⟨mk, hnamed⟩ := Cond.code_named hcode
  obtain ⟨methM, cM, hmethM, -, -, -, -, -, -, hsigM⟩ := Cond.code_spec hnamed hcode
  have hstatic : methM.isStatic = true := Cond.static_spec hnamed hmethM hstat
  obtain ⟨kP, hkP, -⟩ := className_of_methodNamed hnamed
  have hinitP : kP.init = .initialized := Cond.initialized_spec (findClass_of_methodNamed hnamed) hkP hinit
  obtain ⟨vm₁, X₁, hstep₁⟩ := X.invokestaticNest hexec hown hlink hnamed hmethM hstatic hkP hinitP hy (g := g) hg (argsL := argsL) (rest := rest) (hlen _ hsigM) hstack hdg
  rcases hK m meth c ⟨T.setVm vm₁, locs, cells, slots⟩ { g with stack := rest } (.invokestatic index) mk argsL.toArray X₁ hg hsize hdg hW (X₁.named hnamed) (hpre vm₁ X₁.warmed) with ⟨v, B, X', hpost, hsteps⟩ | ⟨q, B, X', hpost, hsteps⟩
  · exact Or.inl ⟨v, vm₁, B, X₁.warmed, X', hpost, fun target h => hstep₁ _ fun acts => by rw [doInvoke_state]; exact hsteps.trans h⟩
  · exact Or.inr ⟨q, vm₁, B, X₁.warmed, X', hpost, hstep₁ _ fun acts => by rw [doInvoke_state]; exact hsteps⟩
theorem vx_runVN {y : MethodName} {bytes cc : ByteArray} {maxL nL mc ms n index : Nat} {ret : Option FieldType} {ws : List Cond} {rm : Room} {Pc : Array Value → State → Prop} {Qc : Array Value → State → Outcome → State → Prop} {XC : String → State → State → Prop} {free : Addr → Prop} {Ts : List Cond} {own C host : String} {b : Addr} {As rest : List Value} {g : JFrame}
    (S : CallFix p m c cc nL s args Ts own) (hM : vx_Met l y ws rm Pc Qc XC mc ms free) (cw : va_CN R s args own index y host bytes maxL ret ws rm mc ms n ∧ (Cond.instanceMethod y).before args s = true ∧ (Cond.selects C y y).before args s = true) (hp : PreV s H C b Pc As)
    (hg : g.method = m) (hn : As.length = n) (hsize : g.locals.size = nL) (hstack : g.stack = As.reverse ++ .ref b :: rest) (hW : 2 * g.monitorRoom + (rest.map fun v => v.category).sum ≤ 8) (hdg : decode cc g.pc = .ok (.invokevirtual index, 3)) (hf : cells + mc ≤ R.cells ∧ slots + ms ≤ R.slots) :
    vx_Run p l e R s m args below meth c H locs cells slots mc ms g rest (Qc (Value.ref b :: As).toArray) XC free := by
  obtain ⟨⟨⟨hrc, hrs, hfr, hlo, hws, hcw⟩, hcode, hini, hy, hlen, hl⟩, hx1, hx2⟩ := cw
  have hK : vx_Back l R p e below s args y 3 8 (PreOf R mc ms Pc) (PostOf Qc mc ms free) (vx_Post XC mc ms free) := vx_back (bytes := bytes) (maxL := maxL) (ret := ret) hM hp.1 hrc hrs hfr hlo hws hcw (fun a' U hW => word_at hW (Or.inl (by first | rfl | simp [Cond.onTables, Cond.keeps, Cond.steady])) hini)
  obtain ⟨hx, hb, hml, ho, -⟩ := S
  obtain ⟨-, ⟨cellB, hcB, hoB, hclB⟩, hPc⟩ := hp
  intro T hT X
  rcases vx_callVN X hx (C := C) (bytes := bytes) (maxL := maxL) (ret := ret) ho hl hx1 hx2 hcode hy hK (by rw [hT]; exact hcB) hoB hclB hg (hsize.trans hml.symm) (argsL := As) (rest := rest) (fun sig h => hn.trans (hlen sig h)) hstack hW (by rw [hb]; exact hdg)
    (fun vm₁ hW₁ => ⟨hf.1, hf.2, hPc (T.setVm vm₁) hT hW₁⟩) with ⟨v, vm₁, ⟨U', l2, c2, s2⟩, hW₁, X', ⟨g', mk, t, L, e1, e2, hq, h1, hL, h2, h3⟩, st⟩ | ⟨q, vm₁, ⟨U', l2, c2, s2⟩, hW₁, X', ⟨g', mk, t, L, E, ce, e1, e2, hq, hce, hcv, hcl, h1, hL, h2, h3⟩, st⟩
  · dsimp only [Pt.U, Pt.locs, Pt.cells, Pt.slots] at X' e1 e2 h1 h2 h3 st
    subst h1; subst h2; subst h3
    exact Or.inl ⟨v, (T.setVm vm₁).calling g' mk (Value.ref b :: As).toArray, t, U', L, hT, X', hL, e1, e2, hq, st⟩
  · dsimp only [Pt.U, Pt.locs, Pt.cells, Pt.slots] at X' e1 e2 h1 h2 h3 st hcl
    subst h1; subst h2; subst h3
    exact Or.inr ⟨q, (T.setVm vm₁).calling g' mk (Value.ref b :: As).toArray, t, U', L, E, ce, hT, X', hL, e1, e2, hq, hce, hcv, vx_cls hW₁ hcl, st⟩
theorem vx_runSN {y : MethodName} {bytes cc : ByteArray} {maxL nL mc ms n index : Nat} {ret : Option FieldType} {ws : List Cond} {rm : Room} {Pc : Array Value → State → Prop} {Qc : Array Value → State → Outcome → State → Prop} {XC : String → State → State → Prop} {free : Addr → Prop} {Ts : List Cond} {own host : String} {As rest : List Value} {g : JFrame}
    (S : CallFix p m c cc nL s args Ts own) (hM : vx_Met l y ws rm Pc Qc XC mc ms free) (cw : va_CN R s args own index y host bytes maxL ret ws rm mc ms n ∧ (Cond.static y).before args s = true ∧ True) (hp : PreS s H Pc As)
    (hg : g.method = m) (hn : As.length = n) (hsize : g.locals.size = nL) (hstack : g.stack = As.reverse ++ rest) (hW : 2 * g.monitorRoom + (rest.map fun v => v.category).sum ≤ 8) (hdg : decode cc g.pc = .ok (.invokestatic index, 3)) (hf : cells + mc ≤ R.cells ∧ slots + ms ≤ R.slots) :
    vx_Run p l e R s m args below meth c H locs cells slots mc ms g rest (Qc As.toArray) XC free := by
  obtain ⟨⟨⟨hrc, hrs, hfr, hlo, hws, hcw⟩, hcode, hini, hy, hlen, hl⟩, hx1, hx2⟩ := cw
  have hK : vx_Back l R p e below s args y 3 8 (PreOf R mc ms Pc) (PostOf Qc mc ms free) (vx_Post XC mc ms free) := vx_back (bytes := bytes) (maxL := maxL) (ret := ret) hM hp.1 hrc hrs hfr hlo hws hcw (fun a' U hW => word_at hW (Or.inl (by first | rfl | simp [Cond.onTables, Cond.keeps, Cond.steady])) hini)
  obtain ⟨hx, hb, hml, ho, -⟩ := S
  have hPc := hp.2
  intro T hT X
  rcases vx_callSN X hx (bytes := bytes) (maxL := maxL) (ret := ret) ho hl hx1 hini hcode hy hK hg (hsize.trans hml.symm) (argsL := As) (rest := rest) (fun sig h => hn.trans (hlen sig h)) hstack hW (by rw [hb]; exact hdg)
    (fun vm₁ hW₁ => ⟨hf.1, hf.2, hPc (T.setVm vm₁) hT hW₁⟩) with ⟨v, vm₁, ⟨U', l2, c2, s2⟩, hW₁, X', ⟨g', mk, t, L, e1, e2, hq, h1, hL, h2, h3⟩, st⟩ | ⟨q, vm₁, ⟨U', l2, c2, s2⟩, hW₁, X', ⟨g', mk, t, L, E, ce, e1, e2, hq, hce, hcv, hcl, h1, hL, h2, h3⟩, st⟩
  · dsimp only [Pt.U, Pt.locs, Pt.cells, Pt.slots] at X' e1 e2 h1 h2 h3 st
    subst h1; subst h2; subst h3
    exact Or.inl ⟨v, (T.setVm vm₁).calling g' mk As.toArray, t, U', L, hT, X', hL, e1, e2, hq, st⟩
  · dsimp only [Pt.U, Pt.locs, Pt.cells, Pt.slots] at X' e1 e2 h1 h2 h3 st hcl
    subst h1; subst h2; subst h3
    exact Or.inr ⟨q, (T.setVm vm₁).calling g' mk As.toArray, t, U', L, E, ce, hT, X', hL, e1, e2, hq, hce, hcv, vx_cls hW₁ hcl, st⟩
end
/-! ===== END ===== -/
/-! ===== BEGIN calls by an interface of methods that may throw (vx_callIF, vx_runF follow va_callIF, va_runF of this kit) ===== -/
section
variable {p : Program} {l : Launch} {e : Env} {R : Room} {s : State} {m : MethodId} {args : Array Value} {below : List Frame} {meth : Method} {c : Code} {H : Heap} {locs : List Loc} {cells slots : Nat} {Q : State → Prop}
variable {mc ms : Nat} {free : Addr → Prop} {A0 A1 : Nat → Prop} {H0 : Heap} {a : Array Value} {pc : Nat} {ls : Array Slot} {st0 rest : List Value}
def vx_Run5 (p : Program) (l : Launch) (e : Env) (R : Room) (s : State) (m : MethodId) (args : Array Value) (below : List Frame) (meth : Method) (c : Code) (H : Heap) (locs : List Loc) (cells slots mc ms : Nat) (g : JFrame) (rest : List Value) (Qa : State → Outcome → State → Prop) (XC : String → State → State → Prop) (free : Addr → Prop) : Prop :=
  ∀ T : State, T.heap = H → Stand p l e R s m args below meth c T locs cells slots →
    (∃ (v : Option Value) (st₀ t T' : State) (L : List Loc), st₀.heap = H ∧ Stand p l e R s m args below meth c T' (locs ++ L) (cells + mc) (slots + ms) ∧ (∀ q ∈ L, free q.base) ∧ T'.heap = t.heap ∧ T'.vm = t.vm ∧ Qa st₀ (.returned v) t ∧
      Goes p e below T g T' { g with pc := g.pc + 5, stack := v.toList ++ rest }) ∨
    (∃ (q : Addr) (st₀ t T' : State) (L : List Loc) (E : String) (ce : Cell), st₀.heap = H ∧ Stand p l e R s m args below meth c T' (locs ++ L) (cells + mc) (slots + ms) ∧ (∀ z ∈ L, free z.base) ∧ T'.heap = t.heap ∧ T'.vm = t.vm ∧ XC E st₀ t ∧ t.heap[q]? = some ce ∧ ce.vm = .none ∧ s.vm.findClass E = some ce.cls ∧
      Steps p.tables e below (T.setTop g) ((T'.setTop { g with stack := rest }).pushFrame (.throwing q)))
theorem vx_callIF {T : State} (X : Stand p l e R s m args below meth c T locs cells slots) (hexec : p.tables.exec = Jvm.exec) {own C : String} {index count : Nat} {x y : MethodName} {bytes : ByteArray} {maxL : Nat} {ret : Option FieldType}
    (hown : s.vm.findClass own = some m.cls) (hlink : (Cond.methodLink own index x).before args s = true) (hdecl : (Cond.declares x).before args s = true) (hface : (Cond.interfaceMethod x.cls x.cls x.name x.desc).before args s = true)
    (hsel : (Cond.selects C x y).before args s = true) (hinst : (Cond.instanceMethod y).before args s = true) (hpub : (Cond.publicMethod y).before args s = true) (hunh : (Cond.unhidden C x.name x.desc).before args s = true)
    (hcast : (Cond.castable C x.cls).before args s = true) (hcode : (Cond.code y bytes maxL ret).before args s = true) (hx : x.cls ≠ "java/lang/invoke/MethodHandle" ∧ x.cls ≠ "java/lang/invoke/VarHandle")
    {W9 : Nat} {Pre : Pt → Array Value → Prop} {Post : Pt → Array Value → Option Value → Pt → Prop} {PostX : Pt → Array Value → Addr → Pt → Prop} (hK : vx_Back l R p e below s args y 5 W9 Pre Post PostX)
    {b : Addr} {cellB : Cell} {kB : Class} (hcell : T.heap[b]? = some cellB) (hobj : cellB.vm.isStatics = false) (hcls : s.vm.findClass C = some cellB.cls) (hkB : s.vm.classes[cellB.cls]? = some kB)
    {g : JFrame} (hg : g.method = m) (hsize : g.locals.size = c.maxLocals) {argsL rest : List Value} (hlen : ∀ sig, parseMethodDescriptor x.desc = some sig → argsL.length = sig.parameters.length)
    (hstack : g.stack = argsL.reverse ++ .ref b :: rest) (hW : 2 * g.monitorRoom + (rest.map fun v => v.category).sum ≤ W9) (hdg : decode c.code g.pc = .ok (.invokeinterface index count, 5))
    (hpre : ∀ vm₁, s.WarmedH vm₁ → Pre ⟨T.setVm vm₁, locs, cells, slots⟩ (Value.ref b :: argsL).toArray) :
    (∃ (v : Option Value) (vm₁ : Vm) (B : Pt), s.WarmedH vm₁ ∧ Stand p l e R s m args below meth c B.U B.locs B.cells B.slots ∧ Post ⟨T.setVm vm₁, locs, cells, slots⟩ (Value.ref b :: argsL).toArray v B ∧
      ∀ target, Steps p.tables e below (B.U.setTop { g with pc := g.pc + 5, stack := v.toList ++ rest }) target → Steps p.tables e below (T.setTop g) target) ∨
    (∃ (q : Addr) (vm₁ : Vm) (B : Pt), s.WarmedH vm₁ ∧ Stand p l e R s m args below meth c B.U B.locs B.cells B.slots ∧ PostX ⟨T.setVm vm₁, locs, cells, slots⟩ (Value.ref b :: argsL).toArray q B ∧
      Steps p.tables e below (T.setTop g) ((B.U.setTop { g with stack := rest }).pushFrame (.throwing q))) := by
  obtain ⟨r0, r, hn, hrm, hstR, hsigR⟩ := Cond.declares_spec hdecl
  obtain ⟨cL, kL, r1, hcL, hkL, hiL, hfoundL, hn1⟩ := Cond.interfaceMethod_spec hface
  cases hn.symm.trans hn1
  have hr0cls : r0.cls = cL := Option.some.inj ((findClass_of_methodNamed hn).symm.trans hcL)
  obtain ⟨hnameR, hdescR⟩ := name_of_methodNamed hn hrm
  obtain ⟨mk, methM, hnamed, hmethM, -, habM⟩ := Cond.instanceMethod_spec hinst
  obtain ⟨c2, r2, m2, q1, q2, q3, q4, -⟩ := Cond.selects_spec hsel
  cases hcls.symm.trans q1
  cases hfoundL.symm.trans q2
  cases hnamed.symm.trans q3
  have hselP : selectMethod e.platform s.vm cellB.cls r0 = .method mk := by rw [Launch.admits_selectMethod X.admits]; exact q4
  have hpubM : hasFlag methM.accessFlags Acc.public_ = true := Cond.publicMethod_spec hnamed hmethM hpub
  have hway : ((cellB.cls :: s.vm.superclasses cellB.cls).any fun k => (declaredIn s.vm r.name r.desc k).any fun (_, z) => z.isPrivate || z.isStatic) = false := by
    rw [hnameR, hdescR]; exact Cond.unhidden_spec hcls hunh
  obtain ⟨c3, t3, w1, w2, w3⟩ := Cond.castable_spec hcast
  cases hcls.symm.trans w1
  cases hcL.symm.trans w2
  obtain ⟨vm₁, X₁, hstep₁⟩ := X.invokeinterface hexec hown hlink hn hrm hstR (by rw [hr0cls]; exact hkL) hiL hx (a := b) (cell := cellB) (kcell := kB) hcell
    (fun z h => by rw [h] at hobj; cases hobj) hkB (by rw [hr0cls]; exact w3) hselP hmethM hway hpubM habM (g := g) hg (argsL := argsL) (rest := rest) (hlen _ hsigR) hstack hdg
  rcases hK m meth c ⟨T.setVm vm₁, locs, cells, slots⟩ { g with stack := rest } (.invokeinterface index count) mk (Value.ref b :: argsL).toArray X₁ hg hsize hdg hW (X₁.named hnamed) (hpre vm₁ X₁.warmed) with ⟨v, B, X', hpost, hsteps⟩ | ⟨q, B, X', hpost, hsteps⟩
  · exact Or.inl ⟨v, vm₁, B, X₁.warmed, X', hpost, fun target h => hstep₁ _ fun acts => by rw [doInvoke_state]; exact hsteps.trans h⟩
  · exact Or.inr ⟨q, vm₁, B, X₁.warmed, X', hpost, hstep₁ _ fun acts => by rw [doInvoke_state]; exact hsteps⟩
theorem vx_runF {x y : MethodName} {bytes cc : ByteArray} {maxL nL mc ms n index count : Nat} {ret : Option FieldType} {ws : List Cond} {rm : Room} {Pc : Array Value → State → Prop} {Qc : Array Value → State → Outcome → State → Prop} {XC : String → State → State → Prop} {free : Addr → Prop} {Ts : List Cond} {own C : String} {cC : ClassId} {b : Addr} {As rest : List Value} {g : JFrame}
    (hat : ClassAt s C cC) (S : CallFix p m c cc nL s args Ts own) (hM : vx_Met l y ws rm Pc Qc XC mc ms free) (cw : va_CI R s args own C index x y bytes maxL ret ws rm mc ms n) (hp : PreV s H C b Pc As)
    (hg : g.method = m) (hn : As.length = n) (hsize : g.locals.size = nL) (hstack : g.stack = As.reverse ++ .ref b :: rest) (hW : 2 * g.monitorRoom + (rest.map fun v => v.category).sum ≤ 8) (hdg : decode cc g.pc = .ok (.invokeinterface index count, 5)) (hf : cells + mc ≤ R.cells ∧ slots + ms ≤ R.slots) :
    vx_Run5 p l e R s m args below meth c H locs cells slots mc ms g rest (Qc (Value.ref b :: As).toArray) XC free := by
  obtain ⟨hrc, hrs, hfr, hlo, hws, hcw⟩ := cw.back
  have hini := cw.init
  have hK : vx_Back l R p e below s args y 5 8 (PreOf R mc ms Pc) (PostOf Qc mc ms free) (vx_Post XC mc ms free) := vx_back (bytes := bytes) (maxL := maxL) (ret := ret) hM hp.1 hrc hrs hfr hlo hws hcw (fun a' U hW => word_at hW (Or.inl (by first | rfl | simp [Cond.onTables, Cond.keeps, Cond.steady])) hini)
  obtain ⟨hx, hb, hml, ho, -⟩ := S
  obtain ⟨-, ⟨cellB, hcB, hoB, hclB⟩, hPc⟩ := hp
  obtain ⟨hfc, kB, hkB, -⟩ := hat
  cases hfc.symm.trans hclB
  intro T hT X
  rcases vx_callIF X hx (C := C) (bytes := bytes) (maxL := maxL) (ret := ret) ho cw.link cw.decl cw.face cw.sel cw.inst cw.pub cw.unh cw.cast cw.code cw.notMH hK (by rw [hT]; exact hcB) hoB hclB hkB hg (hsize.trans hml.symm) (argsL := As) (rest := rest) (fun sig h => hn.trans (cw.len sig h)) hstack hW (by rw [hb]; exact hdg)
    (fun vm₁ hW₁ => ⟨hf.1, hf.2, hPc (T.setVm vm₁) hT hW₁⟩) with ⟨v, vm₁, ⟨U', l2, c2, s2⟩, hW₁, X', ⟨g', mk, t, L, e1, e2, hq, h1, hL, h2, h3⟩, st⟩ | ⟨q, vm₁, ⟨U', l2, c2, s2⟩, hW₁, X', ⟨g', mk, t, L, E, ce, e1, e2, hq, hce, hcv, hcl, h1, hL, h2, h3⟩, st⟩
  · dsimp only [Pt.U, Pt.locs, Pt.cells, Pt.slots] at X' e1 e2 h1 h2 h3 st
    subst h1; subst h2; subst h3
    exact Or.inl ⟨v, (T.setVm vm₁).calling g' mk (Value.ref b :: As).toArray, t, U', L, hT, X', hL, e1, e2, hq, st⟩
  · dsimp only [Pt.U, Pt.locs, Pt.cells, Pt.slots] at X' e1 e2 h1 h2 h3 st hcl
    subst h1; subst h2; subst h3
    exact Or.inr ⟨q, (T.setVm vm₁).calling g' mk (Value.ref b :: As).toArray, t, U', L, E, ce, hT, X', hL, e1, e2, hq, hce, hcv, vx_cls hW₁ hcl, st⟩
theorem vx_callFv {S SX : Type} {post : S → Prop} {px : SX → Prop} {B : S → State → Prop} {BX : String → SX → State → Prop} {AX : Nat → Prop} (hr : vx_Run5 p l e R s m args below meth c H locs cells slots mc ms (F0 m pc ls st0) rest (va_Qv post B A1 a) (vx_X px BX AX) free) (hS : va_S A0 H0 H locs) (hA : ∀ q, q < H.size → A1 q → A0 q) (hf : ∀ q, free q → A0 q) (hAX : ∀ q, q < H.size → AX q → A0 q)
    (kx : ∀ (E : String) (ce : Cell) (q9 : Addr) (u : SX) (t : State) (H1 : Heap) (locs1 : List Loc), t.heap = H1 → s.vm.Alike t.vm → px u → BX E u t → H.size ≤ H1.size → (∀ q : Nat, q < H.size → ¬ AX q → H1[q]? = H[q]?) → va_S A0 H0 H1 locs1 → H1[q9]? = some ce → ce.vm = .none → s.vm.findClass E = some ce.cls → vx_W p l e R s m args below meth c H1 locs1 (cells + mc) (slots + ms) Q (F0 m pc ls rest) q9)
    (kk : ∀ (u : S) (t : State) (H1 : Heap) (locs1 : List Loc), t.heap = H1 → s.vm.Alike t.vm → post u → B u t → H.size ≤ H1.size → (∀ q : Nat, q < H.size → ¬ A1 q → H1[q]? = H[q]?) → va_S A0 H0 H1 locs1 → W p l e R s m args below meth c H1 locs1 (cells + mc) (slots + ms) Q (F0 m (pc + 5) ls (rest))) : W p l e R s m args below meth c H locs cells slots Q (F0 m pc ls st0) := by
  intro T hT X
  rcases hr T hT X with ⟨v, st₀, t, T', L, h0, X', hL, e1, e2, ⟨⟨u, hv, hp, hb⟩, hF⟩, st⟩ | ⟨q, st₀, t, T', L, E, ce, h0, X', hL, e1, e2, ⟨u, hp, hb, hF⟩, hce, hcv, hcl, st⟩
  · cases hv
    obtain ⟨k1, k2, k3⟩ := vx_keep h0 e1 hS hA hf hL hF
    obtain ⟨t2, a1, b1⟩ := kk u t T'.heap (locs ++ L) e1.symm (by rw [← e2]; exact X'.warmed.alike) hp hb k1 k2 k3 T' rfl X'
    exact ⟨t2, st t2 a1, b1⟩
  · obtain ⟨k1, k2, k3⟩ := vx_keep h0 e1 hS hAX hf hL hF
    obtain ⟨t2, a1, b1⟩ := kx E ce q u t T'.heap (locs ++ L) e1.symm (by rw [← e2]; exact X'.warmed.alike) hp hb k1 k2 k3 (by rw [e1]; exact hce) hcv hcl T' rfl X'
    exact ⟨t2, st.trans a1, b1⟩
theorem vx_callFi {S SX : Type} {post : Int32 → S → Prop} {px : SX → Prop} {B : S → State → Prop} {BX : String → SX → State → Prop} {AX : Nat → Prop} (hr : vx_Run5 p l e R s m args below meth c H locs cells slots mc ms (F0 m pc ls st0) rest (va_Qi post B A1 a) (vx_X px BX AX) free) (hS : va_S A0 H0 H locs) (hA : ∀ q, q < H.size → A1 q → A0 q) (hf : ∀ q, free q → A0 q) (hAX : ∀ q, q < H.size → AX q → A0 q)
    (kx : ∀ (E : String) (ce : Cell) (q9 : Addr) (u : SX) (t : State) (H1 : Heap) (locs1 : List Loc), t.heap = H1 → s.vm.Alike t.vm → px u → BX E u t → H.size ≤ H1.size → (∀ q : Nat, q < H.size → ¬ AX q → H1[q]? = H[q]?) → va_S A0 H0 H1 locs1 → H1[q9]? = some ce → ce.vm = .none → s.vm.findClass E = some ce.cls → vx_W p l e R s m args below meth c H1 locs1 (cells + mc) (slots + ms) Q (F0 m pc ls rest) q9)
    (kk : ∀ (r : Int32) (u : S) (t : State) (H1 : Heap) (locs1 : List Loc), t.heap = H1 → s.vm.Alike t.vm → post r u → B u t → H.size ≤ H1.size → (∀ q : Nat, q < H.size → ¬ A1 q → H1[q]? = H[q]?) → va_S A0 H0 H1 locs1 → W p l e R s m args below meth c H1 locs1 (cells + mc) (slots + ms) Q (F0 m (pc + 5) ls (.int r :: rest))) : W p l e R s m args below meth c H locs cells slots Q (F0 m pc ls st0) := by
  intro T hT X
  rcases hr T hT X with ⟨v, st₀, t, T', L, h0, X', hL, e1, e2, ⟨⟨r, u, hv, hp, hb⟩, hF⟩, st⟩ | ⟨q, st₀, t, T', L, E, ce, h0, X', hL, e1, e2, ⟨u, hp, hb, hF⟩, hce, hcv, hcl, st⟩
  · cases hv
    obtain ⟨k1, k2, k3⟩ := vx_keep h0 e1 hS hA hf hL hF
    obtain ⟨t2, a1, b1⟩ := kk r u t T'.heap (locs ++ L) e1.symm (by rw [← e2]; exact X'.warmed.alike) hp hb k1 k2 k3 T' rfl X'
    exact ⟨t2, st t2 a1, b1⟩
  · obtain ⟨k1, k2, k3⟩ := vx_keep h0 e1 hS hAX hf hL hF
    obtain ⟨t2, a1, b1⟩ := kx E ce q u t T'.heap (locs ++ L) e1.symm (by rw [← e2]; exact X'.warmed.alike) hp hb k1 k2 k3 (by rw [e1]; exact hce) hcv hcl T' rfl X'
    exact ⟨t2, st.trans a1, b1⟩
theorem vx_callFl {S SX : Type} {post : Int64 → S → Prop} {px : SX → Prop} {B : S → State → Prop} {BX : String → SX → State → Prop} {AX : Nat → Prop} (hr : vx_Run5 p l e R s m args below meth c H locs cells slots mc ms (F0 m pc ls st0) rest (va_Ql post B A1 a) (vx_X px BX AX) free) (hS : va_S A0 H0 H locs) (hA : ∀ q, q < H.size → A1 q → A0 q) (hf : ∀ q, free q → A0 q) (hAX : ∀ q, q < H.size → AX q → A0 q)
    (kx : ∀ (E : String) (ce : Cell) (q9 : Addr) (u : SX) (t : State) (H1 : Heap) (locs1 : List Loc), t.heap = H1 → s.vm.Alike t.vm → px u → BX E u t → H.size ≤ H1.size → (∀ q : Nat, q < H.size → ¬ AX q → H1[q]? = H[q]?) → va_S A0 H0 H1 locs1 → H1[q9]? = some ce → ce.vm = .none → s.vm.findClass E = some ce.cls → vx_W p l e R s m args below meth c H1 locs1 (cells + mc) (slots + ms) Q (F0 m pc ls rest) q9)
    (kk : ∀ (r : Int64) (u : S) (t : State) (H1 : Heap) (locs1 : List Loc), t.heap = H1 → s.vm.Alike t.vm → post r u → B u t → H.size ≤ H1.size → (∀ q : Nat, q < H.size → ¬ A1 q → H1[q]? = H[q]?) → va_S A0 H0 H1 locs1 → W p l e R s m args below meth c H1 locs1 (cells + mc) (slots + ms) Q (F0 m (pc + 5) ls (.long r :: rest))) : W p l e R s m args below meth c H locs cells slots Q (F0 m pc ls st0) := by
  intro T hT X
  rcases hr T hT X with ⟨v, st₀, t, T', L, h0, X', hL, e1, e2, ⟨⟨r, u, hv, hp, hb⟩, hF⟩, st⟩ | ⟨q, st₀, t, T', L, E, ce, h0, X', hL, e1, e2, ⟨u, hp, hb, hF⟩, hce, hcv, hcl, st⟩
  · cases hv
    obtain ⟨k1, k2, k3⟩ := vx_keep h0 e1 hS hA hf hL hF
    obtain ⟨t2, a1, b1⟩ := kk r u t T'.heap (locs ++ L) e1.symm (by rw [← e2]; exact X'.warmed.alike) hp hb k1 k2 k3 T' rfl X'
    exact ⟨t2, st t2 a1, b1⟩
  · obtain ⟨k1, k2, k3⟩ := vx_keep h0 e1 hS hAX hf hL hF
    obtain ⟨t2, a1, b1⟩ := kx E ce q u t T'.heap (locs ++ L) e1.symm (by rw [← e2]; exact X'.warmed.alike) hp hb k1 k2 k3 (by rw [e1]; exact hce) hcv hcl T' rfl X'
    exact ⟨t2, st.trans a1, b1⟩
theorem vx_callFf {S SX : Type} {post : UInt32 → S → Prop} {px : SX → Prop} {B : S → State → Prop} {BX : String → SX → State → Prop} {AX : Nat → Prop} (hr : vx_Run5 p l e R s m args below meth c H locs cells slots mc ms (F0 m pc ls st0) rest (va_Qf post B A1 a) (vx_X px BX AX) free) (hS : va_S A0 H0 H locs) (hA : ∀ q, q < H.size → A1 q → A0 q) (hf : ∀ q, free q → A0 q) (hAX : ∀ q, q < H.size → AX q → A0 q)
    (kx : ∀ (E : String) (ce : Cell) (q9 : Addr) (u : SX) (t : State) (H1 : Heap) (locs1 : List Loc), t.heap = H1 → s.vm.Alike t.vm → px u → BX E u t → H.size ≤ H1.size → (∀ q : Nat, q < H.size → ¬ AX q → H1[q]? = H[q]?) → va_S A0 H0 H1 locs1 → H1[q9]? = some ce → ce.vm = .none → s.vm.findClass E = some ce.cls → vx_W p l e R s m args below meth c H1 locs1 (cells + mc) (slots + ms) Q (F0 m pc ls rest) q9)
    (kk : ∀ (r : UInt32) (u : S) (t : State) (H1 : Heap) (locs1 : List Loc), t.heap = H1 → s.vm.Alike t.vm → post r u → B u t → H.size ≤ H1.size → (∀ q : Nat, q < H.size → ¬ A1 q → H1[q]? = H[q]?) → va_S A0 H0 H1 locs1 → W p l e R s m args below meth c H1 locs1 (cells + mc) (slots + ms) Q (F0 m (pc + 5) ls (.float r :: rest))) : W p l e R s m args below meth c H locs cells slots Q (F0 m pc ls st0) := by
  intro T hT X
  rcases hr T hT X with ⟨v, st₀, t, T', L, h0, X', hL, e1, e2, ⟨⟨r, u, hv, hp, hb⟩, hF⟩, st⟩ | ⟨q, st₀, t, T', L, E, ce, h0, X', hL, e1, e2, ⟨u, hp, hb, hF⟩, hce, hcv, hcl, st⟩
  · cases hv
    obtain ⟨k1, k2, k3⟩ := vx_keep h0 e1 hS hA hf hL hF
    obtain ⟨t2, a1, b1⟩ := kk r u t T'.heap (locs ++ L) e1.symm (by rw [← e2]; exact X'.warmed.alike) hp hb k1 k2 k3 T' rfl X'
    exact ⟨t2, st t2 a1, b1⟩
  · obtain ⟨k1, k2, k3⟩ := vx_keep h0 e1 hS hAX hf hL hF
    obtain ⟨t2, a1, b1⟩ := kx E ce q u t T'.heap (locs ++ L) e1.symm (by rw [← e2]; exact X'.warmed.alike) hp hb k1 k2 k3 (by rw [e1]; exact hce) hcv hcl T' rfl X'
    exact ⟨t2, st.trans a1, b1⟩
theorem vx_callFd {S SX : Type} {post : UInt64 → S → Prop} {px : SX → Prop} {B : S → State → Prop} {BX : String → SX → State → Prop} {AX : Nat → Prop} (hr : vx_Run5 p l e R s m args below meth c H locs cells slots mc ms (F0 m pc ls st0) rest (va_Qd post B A1 a) (vx_X px BX AX) free) (hS : va_S A0 H0 H locs) (hA : ∀ q, q < H.size → A1 q → A0 q) (hf : ∀ q, free q → A0 q) (hAX : ∀ q, q < H.size → AX q → A0 q)
    (kx : ∀ (E : String) (ce : Cell) (q9 : Addr) (u : SX) (t : State) (H1 : Heap) (locs1 : List Loc), t.heap = H1 → s.vm.Alike t.vm → px u → BX E u t → H.size ≤ H1.size → (∀ q : Nat, q < H.size → ¬ AX q → H1[q]? = H[q]?) → va_S A0 H0 H1 locs1 → H1[q9]? = some ce → ce.vm = .none → s.vm.findClass E = some ce.cls → vx_W p l e R s m args below meth c H1 locs1 (cells + mc) (slots + ms) Q (F0 m pc ls rest) q9)
    (kk : ∀ (r : UInt64) (u : S) (t : State) (H1 : Heap) (locs1 : List Loc), t.heap = H1 → s.vm.Alike t.vm → post r u → B u t → H.size ≤ H1.size → (∀ q : Nat, q < H.size → ¬ A1 q → H1[q]? = H[q]?) → va_S A0 H0 H1 locs1 → W p l e R s m args below meth c H1 locs1 (cells + mc) (slots + ms) Q (F0 m (pc + 5) ls (.double r :: rest))) : W p l e R s m args below meth c H locs cells slots Q (F0 m pc ls st0) := by
  intro T hT X
  rcases hr T hT X with ⟨v, st₀, t, T', L, h0, X', hL, e1, e2, ⟨⟨r, u, hv, hp, hb⟩, hF⟩, st⟩ | ⟨q, st₀, t, T', L, E, ce, h0, X', hL, e1, e2, ⟨u, hp, hb, hF⟩, hce, hcv, hcl, st⟩
  · cases hv
    obtain ⟨k1, k2, k3⟩ := vx_keep h0 e1 hS hA hf hL hF
    obtain ⟨t2, a1, b1⟩ := kk r u t T'.heap (locs ++ L) e1.symm (by rw [← e2]; exact X'.warmed.alike) hp hb k1 k2 k3 T' rfl X'
    exact ⟨t2, st t2 a1, b1⟩
  · obtain ⟨k1, k2, k3⟩ := vx_keep h0 e1 hS hAX hf hL hF
    obtain ⟨t2, a1, b1⟩ := kx E ce q u t T'.heap (locs ++ L) e1.symm (by rw [← e2]; exact X'.warmed.alike) hp hb k1 k2 k3 (by rw [e1]; exact hce) hcv hcl T' rfl X'
    exact ⟨t2, st.trans a1, b1⟩
end
/-! ===== END ===== -/
/-! ===== BEGIN by an interface, a method with a table of its own that may throw (follows va_callIFW, va_runFW) ===== -/
section
variable {p : Program} {l : Launch} {e : Env} {R : Room} {s : State} {m : MethodId} {args : Array Value} {below : List Frame} {meth : Method} {c : Code} {H : Heap} {locs : List Loc} {cells slots : Nat}
theorem vx_callIFW {T : State} (X : Stand p l e R s m args below meth c T locs cells slots) (hexec : p.tables.exec = Jvm.exec) {own C : String} {index count : Nat} {x y : MethodName} {bytes : ByteArray} {maxL : Nat} {ret : Option FieldType} {hh : List (Nat × Nat × Nat × Nat)}
    (hown : s.vm.findClass own = some m.cls) (hlink : (Cond.methodLink own index x).before args s = true) (hdecl : (Cond.declares x).before args s = true) (hface : (Cond.interfaceMethod x.cls x.cls x.name x.desc).before args s = true)
    (hsel : (Cond.selects C x y).before args s = true) (hinst : (Cond.instanceMethod y).before args s = true) (hpub : (Cond.publicMethod y).before args s = true) (hunh : (Cond.unhidden C x.name x.desc).before args s = true)
    (hcast : (Cond.castable C x.cls).before args s = true) (hcode : (Cond.codeWith y bytes maxL ret hh).before args s = true) (hx : x.cls ≠ "java/lang/invoke/MethodHandle" ∧ x.cls ≠ "java/lang/invoke/VarHandle")
    {W : Nat} {Pre : Pt → Array Value → Prop} {Post : Pt → Array Value → Option Value → Pt → Prop} {PostX : Pt → Array Value → Addr → Pt → Prop} (hK : vx_Back l R p e below s args y 5 W Pre Post PostX)
    {b : Addr} {cellB : Cell} {kB : Class} (hcell : T.heap[b]? = some cellB) (hobj : cellB.vm.isStatics = false) (hcls : s.vm.findClass C = some cellB.cls) (hkB : s.vm.classes[cellB.cls]? = some kB)
    {g : JFrame} (hg : g.method = m) (hsize : g.locals.size = c.maxLocals) {argsL rest : List Value} (hlen : ∀ sig, parseMethodDescriptor x.desc = some sig → argsL.length = sig.parameters.length)
    (hstack : g.stack = argsL.reverse ++ .ref b :: rest) (hW : 2 * g.monitorRoom + (rest.map fun v => v.category).sum ≤ W) (hdg : decode c.code g.pc = .ok (.invokeinterface index count, 5))
    (hpre : ∀ vm₁, s.WarmedH vm₁ → Pre ⟨T.setVm vm₁, locs, cells, slots⟩ (Value.ref b :: argsL).toArray) :
    (∃ (v : Option Value) (vm₁ : Vm) (B : Pt), s.WarmedH vm₁ ∧ Stand p l e R s m args below meth c B.U B.locs B.cells B.slots ∧ Post ⟨T.setVm vm₁, locs, cells, slots⟩ (Value.ref b :: argsL).toArray v B ∧
      ∀ target, Steps p.tables e below (B.U.setTop { g with pc := g.pc + 5, stack := v.toList ++ rest }) target → Steps p.tables e below (T.setTop g) target) ∨
    (∃ (q : Addr) (vm₁ : Vm) (B : Pt), s.WarmedH vm₁ ∧ Stand p l e R s m args below meth c B.U B.locs B.cells B.slots ∧ PostX ⟨T.setVm vm₁, locs, cells, slots⟩ (Value.ref b :: argsL).toArray q B ∧
      Steps p.tables e below (T.setTop g) ((B.U.setTop { g with stack := rest }).pushFrame (.throwing q))) := by
  obtain ⟨r0, r, hn, hrm, hstR, hsigR⟩ := Cond.declares_spec hdecl
  obtain ⟨cL, kL, r1, hcL, hkL, hiL, hfoundL, hn1⟩ := Cond.interfaceMethod_spec hface
  cases hn.symm.trans hn1
  have hr0cls : r0.cls = cL := Option.some.inj ((findClass_of_methodNamed hn).symm.trans hcL)
  obtain ⟨hnameR, hdescR⟩ := name_of_methodNamed hn hrm
  obtain ⟨mk, methM, hnamed, hmethM, -, habM⟩ := Cond.instanceMethod_spec hinst
  obtain ⟨c2, r2, m2, q1, q2, q3, q4, -⟩ := Cond.selects_spec hsel
  cases hcls.symm.trans q1
  cases hfoundL.symm.trans q2
  cases hnamed.symm.trans q3
  have hselP : selectMethod e.platform s.vm cellB.cls r0 = .method mk := by rw [Launch.admits_selectMethod X.admits]; exact q4
  have hpubM : hasFlag methM.accessFlags Acc.public_ = true := Cond.publicMethod_spec hnamed hmethM hpub
  have hway : ((cellB.cls :: s.vm.superclasses cellB.cls).any fun k => (declaredIn s.vm r.name r.desc k).any fun (_, z) => z.isPrivate || z.isStatic) = false := by
    rw [hnameR, hdescR]; exact Cond.unhidden_spec hcls hunh
  obtain ⟨c3, t3, w1, w2, w3⟩ := Cond.castable_spec hcast
  cases hcls.symm.trans w1
  cases hcL.symm.trans w2
  obtain ⟨vm₁, X₁, hstep₁⟩ := X.invokeinterface hexec hown hlink hn hrm hstR (by rw [hr0cls]; exact hkL) hiL hx (a := b) (cell := cellB) (kcell := kB) hcell
    (fun z h => by rw [h] at hobj; cases hobj) hkB (by rw [hr0cls]; exact w3) hselP hmethM hway hpubM habM (g := g) hg (argsL := argsL) (rest := rest) (hlen _ hsigR) hstack hdg
  rcases hK m meth c ⟨T.setVm vm₁, locs, cells, slots⟩ { g with stack := rest } (.invokeinterface index count) mk (Value.ref b :: argsL).toArray X₁ hg hsize hdg hW (X₁.named hnamed) (hpre vm₁ X₁.warmed) with ⟨v, B, X', hpost, hsteps⟩ | ⟨q, B, X', hpost, hsteps⟩
  · exact Or.inl ⟨v, vm₁, B, X₁.warmed, X', hpost, fun target h => hstep₁ _ fun acts => by rw [doInvoke_state]; exact hsteps.trans h⟩
  · exact Or.inr ⟨q, vm₁, B, X₁.warmed, X', hpost, hstep₁ _ fun acts => by rw [doInvoke_state]; exact hsteps⟩
theorem vx_runFW {x y : MethodName} {bytes cc : ByteArray} {maxL nL mc ms n index count : Nat} {ret : Option FieldType} {hh : List (Nat × Nat × Nat × Nat)} {ws : List Cond} {rm : Room} {Pc : Array Value → State → Prop} {Qc : Array Value → State → Outcome → State → Prop} {XC : String → State → State → Prop} {free : Addr → Prop} {Ts : List Cond} {own C : String} {cC : ClassId} {b : Addr} {As rest : List Value} {g : JFrame}
    (hat : ClassAt s C cC) (S : CallFix p m c cc nL s args Ts own) (hM : vx_Met l y ws rm Pc Qc XC mc ms free) (cw : va_CIW R s args own C index x y bytes maxL ret hh ws rm mc ms n) (hp : PreV s H C b Pc As)
    (hg : g.method = m) (hn : As.length = n) (hsize : g.locals.size = nL) (hstack : g.stack = As.reverse ++ .ref b :: rest) (hW : 2 * g.monitorRoom + (rest.map fun v => v.category).sum ≤ 8) (hdg : decode cc g.pc = .ok (.invokeinterface index count, 5)) (hf : cells + mc ≤ R.cells ∧ slots + ms ≤ R.slots) :
    vx_Run5 p l e R s m args below meth c H locs cells slots mc ms g rest (Qc (Value.ref b :: As).toArray) XC free := by
  obtain ⟨hrc, hrs, hfr, hlo, hws, hcw⟩ := cw.back
  have hini := cw.init
  have hK : vx_Back l R p e below s args y 5 8 (PreOf R mc ms Pc) (PostOf Qc mc ms free) (vx_Post XC mc ms free) := vx_backW (hh := hh) (bytes := bytes) (maxL := maxL) (ret := ret) hM hp.1 hrc hrs hfr hlo hws hcw (fun a' U hW => word_at hW (Or.inl (by first | rfl | simp [Cond.onTables, Cond.keeps, Cond.steady])) hini)
  obtain ⟨hx, hb, hml, ho, -⟩ := S
  obtain ⟨-, ⟨cellB, hcB, hoB, hclB⟩, hPc⟩ := hp
  obtain ⟨hfc, kB, hkB, -⟩ := hat
  cases hfc.symm.trans hclB
  intro T hT X
  rcases vx_callIFW X hx (C := C) (hh := hh) (bytes := bytes) (maxL := maxL) (ret := ret) ho cw.link cw.decl cw.face cw.sel cw.inst cw.pub cw.unh cw.cast cw.code cw.notMH hK (by rw [hT]; exact hcB) hoB hclB hkB hg (hsize.trans hml.symm) (argsL := As) (rest := rest) (fun sig h => hn.trans (cw.len sig h)) hstack hW (by rw [hb]; exact hdg)
    (fun vm₁ hW₁ => ⟨hf.1, hf.2, hPc (T.setVm vm₁) hT hW₁⟩) with ⟨v, vm₁, ⟨U', l2, c2, s2⟩, hW₁, X', ⟨g', mk, t, L, e1, e2, hq, h1, hL, h2, h3⟩, st⟩ | ⟨q, vm₁, ⟨U', l2, c2, s2⟩, hW₁, X', ⟨g', mk, t, L, E, ce, e1, e2, hq, hce, hcv, hcl, h1, hL, h2, h3⟩, st⟩
  · dsimp only [Pt.U, Pt.locs, Pt.cells, Pt.slots] at X' e1 e2 h1 h2 h3 st
    subst h1; subst h2; subst h3
    exact Or.inl ⟨v, (T.setVm vm₁).calling g' mk (Value.ref b :: As).toArray, t, U', L, hT, X', hL, e1, e2, hq, st⟩
  · dsimp only [Pt.U, Pt.locs, Pt.cells, Pt.slots] at X' e1 e2 h1 h2 h3 st hcl
    subst h1; subst h2; subst h3
    exact Or.inr ⟨q, (T.setVm vm₁).calling g' mk (Value.ref b :: As).toArray, t, U', L, E, ce, hT, X', hL, e1, e2, hq, hce, hcv, vx_cls hW₁ hcl, st⟩
end
/-! ===== END ===== -/
/-! ===== BEGIN .. of methods that hand back an object of the pool ===== -/
section
variable {p : Program} {l : Launch} {e : Env} {R : Room} {s : State} {m : MethodId} {args : Array Value} {below : List Frame} {meth : Method} {c : Code} {H : Heap} {locs : List Loc} {cells slots : Nat} {Q : State → Prop}
variable {mc ms : Nat} {free : Addr → Prop} {A0 A1 : Nat → Prop} {H0 : Heap} {a : Array Value} {pc : Nat} {ls : Array Slot} {st0 rest : List Value}
theorem vx_callq {S SX : Type} {post : Option Nat → S → Prop} {px : SX → Prop} {B : S → State → Prop} {BX : String → SX → State → Prop} {AX : Nat → Prop} (hr : vx_Run p l e R s m args below meth c H locs cells slots mc ms (F0 m pc ls st0) rest (va_Qq post B A1 a) (vx_X px BX AX) free) (hS : va_S A0 H0 H locs) (hA : ∀ q, q < H.size → A1 q → A0 q) (hf : ∀ q, free q → A0 q) (hAX : ∀ q, q < H.size → AX q → A0 q)
    (kx : ∀ (E : String) (ce : Cell) (q9 : Addr) (u : SX) (t : State) (H1 : Heap) (locs1 : List Loc), t.heap = H1 → s.vm.Alike t.vm → px u → BX E u t → H.size ≤ H1.size → (∀ q : Nat, q < H.size → ¬ AX q → H1[q]? = H[q]?) → va_S A0 H0 H1 locs1 → H1[q9]? = some ce → ce.vm = .none → s.vm.findClass E = some ce.cls → vx_W p l e R s m args below meth c H1 locs1 (cells + mc) (slots + ms) Q (F0 m pc ls rest) q9)
    (kk : ∀ (r : Option Nat) (u : S) (t : State) (H1 : Heap) (locs1 : List Loc), t.heap = H1 → s.vm.Alike t.vm → post r u → B u t → H.size ≤ H1.size → (∀ q : Nat, q < H.size → ¬ A1 q → H1[q]? = H[q]?) → va_S A0 H0 H1 locs1 → W p l e R s m args below meth c H1 locs1 (cells + mc) (slots + ms) Q (F0 m (pc + 3) ls (va_rf r :: rest))) : W p l e R s m args below meth c H locs cells slots Q (F0 m pc ls st0) := by
  intro T hT X
  rcases hr T hT X with ⟨v, st₀, t, T', L, h0, X', hL, e1, e2, ⟨⟨r, u, hv, hp, hb⟩, hF⟩, st⟩ | ⟨q, st₀, t, T', L, E, ce, h0, X', hL, e1, e2, ⟨u, hp, hb, hF⟩, hce, hcv, hcl, st⟩
  · cases hv
    obtain ⟨k1, k2, k3⟩ := vx_keep h0 e1 hS hA hf hL hF
    obtain ⟨t2, a1, b1⟩ := kk r u t T'.heap (locs ++ L) e1.symm (by rw [← e2]; exact X'.warmed.alike) hp hb k1 k2 k3 T' rfl X'
    exact ⟨t2, st t2 a1, b1⟩
  · obtain ⟨k1, k2, k3⟩ := vx_keep h0 e1 hS hAX hf hL hF
    obtain ⟨t2, a1, b1⟩ := kx E ce q u t T'.heap (locs ++ L) e1.symm (by rw [← e2]; exact X'.warmed.alike) hp hb k1 k2 k3 (by rw [e1]; exact hce) hcv hcl T' rfl X'
    exact ⟨t2, st.trans a1, b1⟩
end
/-! ===== END ===== -/
/-! ===== BEGIN .. a constant ===== -/
section
variable {p : Program} {l : Launch} {e : Env} {R : Room} {s : State} {m : MethodId} {args : Array Value} {below : List Frame} {meth : Method} {c : Code} {H : Heap} {locs : List Loc} {cells slots : Nat} {Q : State → Prop}
variable {mc ms : Nat} {free : Addr → Prop} {A0 A1 : Nat → Prop} {H0 : Heap} {a : Array Value} {pc : Nat} {ls : Array Slot} {st0 rest : List Value}
theorem vx_calle {ad : Nat → Nat} {S SX : Type} {post : Option Nat → S → Prop} {px : SX → Prop} {B : S → State → Prop} {BX : String → SX → State → Prop} {AX : Nat → Prop} (hr : vx_Run p l e R s m args below meth c H locs cells slots mc ms (F0 m pc ls st0) rest (va_Qe ad post B A1 a) (vx_X px BX AX) free) (hS : va_S A0 H0 H locs) (hA : ∀ q, q < H.size → A1 q → A0 q) (hf : ∀ q, free q → A0 q) (hAX : ∀ q, q < H.size → AX q → A0 q)
    (kx : ∀ (E : String) (ce : Cell) (q9 : Addr) (u : SX) (t : State) (H1 : Heap) (locs1 : List Loc), t.heap = H1 → s.vm.Alike t.vm → px u → BX E u t → H.size ≤ H1.size → (∀ q : Nat, q < H.size → ¬ AX q → H1[q]? = H[q]?) → va_S A0 H0 H1 locs1 → H1[q9]? = some ce → ce.vm = .none → s.vm.findClass E = some ce.cls → vx_W p l e R s m args below meth c H1 locs1 (cells + mc) (slots + ms) Q (F0 m pc ls rest) q9)
    (kk : ∀ (r : Option Nat) (u : S) (t : State) (H1 : Heap) (locs1 : List Loc), t.heap = H1 → s.vm.Alike t.vm → post r u → B u t → H.size ≤ H1.size → (∀ q : Nat, q < H.size → ¬ A1 q → H1[q]? = H[q]?) → va_S A0 H0 H1 locs1 → W p l e R s m args below meth c H1 locs1 (cells + mc) (slots + ms) Q (F0 m (pc + 3) ls (va_re ad r :: rest))) : W p l e R s m args below meth c H locs cells slots Q (F0 m pc ls st0) := by
  intro T hT X
  rcases hr T hT X with ⟨v, st₀, t, T', L, h0, X', hL, e1, e2, ⟨⟨r, u, hv, hp, hb⟩, hF⟩, st⟩ | ⟨q, st₀, t, T', L, E, ce, h0, X', hL, e1, e2, ⟨u, hp, hb, hF⟩, hce, hcv, hcl, st⟩
  · cases hv
    obtain ⟨k1, k2, k3⟩ := vx_keep h0 e1 hS hA hf hL hF
    obtain ⟨t2, a1, b1⟩ := kk r u t T'.heap (locs ++ L) e1.symm (by rw [← e2]; exact X'.warmed.alike) hp hb k1 k2 k3 T' rfl X'
    exact ⟨t2, st t2 a1, b1⟩
  · obtain ⟨k1, k2, k3⟩ := vx_keep h0 e1 hS hAX hf hL hF
    obtain ⟨t2, a1, b1⟩ := kx E ce q u t T'.heap (locs ++ L) e1.symm (by rw [← e2]; exact X'.warmed.alike) hp hb k1 k2 k3 (by rw [e1]; exact hce) hcv hcl T' rfl X'
    exact ⟨t2, st.trans a1, b1⟩
end
/-! ===== END ===== -/
/-! ===== BEGIN .. by an interface, an object ===== -/
section
variable {p : Program} {l : Launch} {e : Env} {R : Room} {s : State} {m : MethodId} {args : Array Value} {below : List Frame} {meth : Method} {c : Code} {H : Heap} {locs : List Loc} {cells slots : Nat} {Q : State → Prop}
variable {mc ms : Nat} {free : Addr → Prop} {A0 A1 : Nat → Prop} {H0 : Heap} {a : Array Value} {pc : Nat} {ls : Array Slot} {st0 rest : List Value}
theorem vx_callFq {S SX : Type} {post : Option Nat → S → Prop} {px : SX → Prop} {B : S → State → Prop} {BX : String → SX → State → Prop} {AX : Nat → Prop} (hr : vx_Run5 p l e R s m args below meth c H locs cells slots mc ms (F0 m pc ls st0) rest (va_Qq post B A1 a) (vx_X px BX AX) free) (hS : va_S A0 H0 H locs) (hA : ∀ q, q < H.size → A1 q → A0 q) (hf : ∀ q, free q → A0 q) (hAX : ∀ q, q < H.size → AX q → A0 q)
    (kx : ∀ (E : String) (ce : Cell) (q9 : Addr) (u : SX) (t : State) (H1 : Heap) (locs1 : List Loc), t.heap = H1 → s.vm.Alike t.vm → px u → BX E u t → H.size ≤ H1.size → (∀ q : Nat, q < H.size → ¬ AX q → H1[q]? = H[q]?) → va_S A0 H0 H1 locs1 → H1[q9]? = some ce → ce.vm = .none → s.vm.findClass E = some ce.cls → vx_W p l e R s m args below meth c H1 locs1 (cells + mc) (slots + ms) Q (F0 m pc ls rest) q9)
    (kk : ∀ (r : Option Nat) (u : S) (t : State) (H1 : Heap) (locs1 : List Loc), t.heap = H1 → s.vm.Alike t.vm → post r u → B u t → H.size ≤ H1.size → (∀ q : Nat, q < H.size → ¬ A1 q → H1[q]? = H[q]?) → va_S A0 H0 H1 locs1 → W p l e R s m args below meth c H1 locs1 (cells + mc) (slots + ms) Q (F0 m (pc + 5) ls (va_rf r :: rest))) : W p l e R s m args below meth c H locs cells slots Q (F0 m pc ls st0) := by
  intro T hT X
  rcases hr T hT X with ⟨v, st₀, t, T', L, h0, X', hL, e1, e2, ⟨⟨r, u, hv, hp, hb⟩, hF⟩, st⟩ | ⟨q, st₀, t, T', L, E, ce, h0, X', hL, e1, e2, ⟨u, hp, hb, hF⟩, hce, hcv, hcl, st⟩
  · cases hv
    obtain ⟨k1, k2, k3⟩ := vx_keep h0 e1 hS hA hf hL hF
    obtain ⟨t2, a1, b1⟩ := kk r u t T'.heap (locs ++ L) e1.symm (by rw [← e2]; exact X'.warmed.alike) hp hb k1 k2 k3 T' rfl X'
    exact ⟨t2, st t2 a1, b1⟩
  · obtain ⟨k1, k2, k3⟩ := vx_keep h0 e1 hS hAX hf hL hF
    obtain ⟨t2, a1, b1⟩ := kx E ce q u t T'.heap (locs ++ L) e1.symm (by rw [← e2]; exact X'.warmed.alike) hp hb k1 k2 k3 (by rw [e1]; exact hce) hcv hcl T' rfl X'
    exact ⟨t2, st.trans a1, b1⟩
end
/-! ===== END ===== -/
/-! ===== BEGIN .. by an interface, a constant ===== -/
section
variable {p : Program} {l : Launch} {e : Env} {R : Room} {s : State} {m : MethodId} {args : Array Value} {below : List Frame} {meth : Method} {c : Code} {H : Heap} {locs : List Loc} {cells slots : Nat} {Q : State → Prop}
variable {mc ms : Nat} {free : Addr → Prop} {A0 A1 : Nat → Prop} {H0 : Heap} {a : Array Value} {pc : Nat} {ls : Array Slot} {st0 rest : List Value}
theorem vx_callFe {ad : Nat → Nat} {S SX : Type} {post : Option Nat → S → Prop} {px : SX → Prop} {B : S → State → Prop} {BX : String → SX → State → Prop} {AX : Nat → Prop} (hr : vx_Run5 p l e R s m args below meth c H locs cells slots mc ms (F0 m pc ls st0) rest (va_Qe ad post B A1 a) (vx_X px BX AX) free) (hS : va_S A0 H0 H locs) (hA : ∀ q, q < H.size → A1 q → A0 q) (hf : ∀ q, free q → A0 q) (hAX : ∀ q, q < H.size → AX q → A0 q)
    (kx : ∀ (E : String) (ce : Cell) (q9 : Addr) (u : SX) (t : State) (H1 : Heap) (locs1 : List Loc), t.heap = H1 → s.vm.Alike t.vm → px u → BX E u t → H.size ≤ H1.size → (∀ q : Nat, q < H.size → ¬ AX q → H1[q]? = H[q]?) → va_S A0 H0 H1 locs1 → H1[q9]? = some ce → ce.vm = .none → s.vm.findClass E = some ce.cls → vx_W p l e R s m args below meth c H1 locs1 (cells + mc) (slots + ms) Q (F0 m pc ls rest) q9)
    (kk : ∀ (r : Option Nat) (u : S) (t : State) (H1 : Heap) (locs1 : List Loc), t.heap = H1 → s.vm.Alike t.vm → post r u → B u t → H.size ≤ H1.size → (∀ q : Nat, q < H.size → ¬ A1 q → H1[q]? = H[q]?) → va_S A0 H0 H1 locs1 → W p l e R s m args below meth c H1 locs1 (cells + mc) (slots + ms) Q (F0 m (pc + 5) ls (va_re ad r :: rest))) : W p l e R s m args below meth c H locs cells slots Q (F0 m pc ls st0) := by
  intro T hT X
  rcases hr T hT X with ⟨v, st₀, t, T', L, h0, X', hL, e1, e2, ⟨⟨r, u, hv, hp, hb⟩, hF⟩, st⟩ | ⟨q, st₀, t, T', L, E, ce, h0, X', hL, e1, e2, ⟨u, hp, hb, hF⟩, hce, hcv, hcl, st⟩
  · cases hv
    obtain ⟨k1, k2, k3⟩ := vx_keep h0 e1 hS hA hf hL hF
    obtain ⟨t2, a1, b1⟩ := kk r u t T'.heap (locs ++ L) e1.symm (by rw [← e2]; exact X'.warmed.alike) hp hb k1 k2 k3 T' rfl X'
    exact ⟨t2, st t2 a1, b1⟩
  · obtain ⟨k1, k2, k3⟩ := vx_keep h0 e1 hS hAX hf hL hF
    obtain ⟨t2, a1, b1⟩ := kx E ce q u t T'.heap (locs ++ L) e1.symm (by rw [← e2]; exact X'.warmed.alike) hp hb k1 k2 k3 (by rw [e1]; exact hce) hcv hcl T' rfl X'
    exact ⟨t2, st.trans a1, b1⟩
end
/-! ===== END ===== -/
/-! ===== BEGIN what the machine throws by itself: null at a field, at athrow ===== -/
section VXM2
variable {p : Program} {l : Launch} {e : Env} {R : Room} {s : State} {m : MethodId} {args : Array Value} {below : List Frame} {meth : Method} {c : Code} {H : Heap} {locs : List Loc} {cells slots : Nat}
variable {Q : State → Prop} {cc : ByteArray} {pc : Nat} {ls : Array Slot} {rest : List Value}
theorem vx_getfN {D cl tys} {own ref C : String} {T : u_T} {N ci index : Nat} {Ts : List Cond} (hexec : p.tables.exec = Jvm.exec) (hb : c.code = cc) (hts : ∀ w ∈ Ts, w.before args s = true) (hin : ∀ w ∈ u_ws C T N, w ∈ Ts) (hown : s.vm.findClass own = some m.cls) (hK : va_K D cl tys s) (hc : cl[ci]? = some (C, T, N)) (k : Nat) (hk : k < N) (hlink : (Cond.fieldLink own index ref (T k).2.1 (T k).2.2.1).before args s = true) (hsame : ∀ x, s.fieldFound? (T k).1 (T k).2.1 (T k).2.2.1 = some x → s.fieldFound? ref (T k).2.1 (T k).2.2.1 = some x) (hdg : decode cc pc = .ok (.getfield index, 3)) (kk : vx_NoteN p l e R s m args below meth c H locs cells slots Q (F0 m pc ls rest)) : W p l e R s m args below meth c H locs cells slots Q (F0 m pc ls (.null :: rest)) := by
  obtain ⟨hS, hfc, kC, hkC, -⟩ := hK.1 ci _ hc
  obtain ⟨cf, kf, fi, f, hi, -⟩ := hS k hk
  intro U hU X
  obtain ⟨vm', X1, st1⟩ := X.getfieldNull hexec hown hlink (hsame _ hi) (u_facts hfc hkC (u_lays hts hin hk) hi).1 (g := F0 m pc ls (.null :: rest)) rfl (rest := rest) rfl (by rw [hb]; exact hdg)
  obtain ⟨t, st, q⟩ := kk (U.setVm vm') hU X1
  exact ⟨t, st1 t st, q⟩
theorem vx_getfNN {D cl tys} {own ref C host : String} {T : u_T} {N ci index : Nat} {Ts : List Cond} (hexec : p.tables.exec = Jvm.exec) (hb : c.code = cc) (hts : ∀ w ∈ Ts, w.before args s = true) (hin : ∀ w ∈ u_ws C T N, w ∈ Ts) (hown : s.vm.findClass own = some m.cls) (hK : va_K D cl tys s) (hc : cl[ci]? = some (C, T, N)) (k : Nat) (hk : k < N) (hlink : (Cond.fieldLinkNest own index ref (T k).2.1 (T k).2.2.1 host).before args s = true) (hsame : ∀ x, s.fieldFound? (T k).1 (T k).2.1 (T k).2.2.1 = some x → s.fieldFound? ref (T k).2.1 (T k).2.2.1 = some x) (hdg : decode cc pc = .ok (.getfield index, 3)) (kk : vx_NoteN p l e R s m args below meth c H locs cells slots Q (F0 m pc ls rest)) : W p l e R s m args below meth c H locs cells slots Q (F0 m pc ls (.null :: rest)) := by
  obtain ⟨hS, hfc, kC, hkC, -⟩ := hK.1 ci _ hc
  obtain ⟨cf, kf, fi, f, hi, -⟩ := hS k hk
  intro U hU X
  obtain ⟨vm', X1, st1⟩ := X.getfieldNullNest hexec hown hlink (hsame _ hi) (u_facts hfc hkC (u_lays hts hin hk) hi).1 (g := F0 m pc ls (.null :: rest)) rfl (rest := rest) rfl (by rw [hb]; exact hdg)
  obtain ⟨t, st, q⟩ := kk (U.setVm vm') hU X1
  exact ⟨t, st1 t st, q⟩
theorem vx_putfN {D cl tys} {own ref C : String} {T : u_T} {N ci index : Nat} {Ts : List Cond} (hexec : p.tables.exec = Jvm.exec) (hb : c.code = cc) (hts : ∀ w ∈ Ts, w.before args s = true) (hin : ∀ w ∈ u_ws C T N, w ∈ Ts) (hown : s.vm.findClass own = some m.cls) (hK : va_K D cl tys s) (hc : cl[ci]? = some (C, T, N)) (k : Nat) (hk : k < N) (hlink : (Cond.fieldLink own index ref (T k).2.1 (T k).2.2.1).before args s = true) (hsame : ∀ x, s.fieldFound? (T k).1 (T k).2.1 (T k).2.2.1 = some x → s.fieldFound? ref (T k).2.1 (T k).2.2.1 = some x) (hfin : (T k).2.2.2 = false) {v : Value} (hdg : decode cc pc = .ok (.putfield index, 3)) (kk : vx_NoteN p l e R s m args below meth c H locs cells slots Q (F0 m pc ls rest)) : W p l e R s m args below meth c H locs cells slots Q (F0 m pc ls (v :: .null :: rest)) := by
  obtain ⟨hS, hfc, kC, hkC, -⟩ := hK.1 ci _ hc
  obtain ⟨cf, kf, fi, f, hi, -⟩ := hS k hk
  have hlay := hts _ (hin _ (u_in_lay hk))
  unfold u_lay at hlay
  rw [if_neg (by rw [hfin]; decide)] at hlay
  obtain ⟨c9, k9, cf9, kf9, fi9, f9, -, -, hi9, hst9, hnf9, -⟩ := Cond.lays_spec hlay
  cases hi.symm.trans hi9
  intro U hU X
  obtain ⟨vm', X1, st1⟩ := X.putfieldNull hexec hown hlink (hsame _ hi) hst9 hnf9 (g := F0 m pc ls (v :: .null :: rest)) rfl (v := v) (rest := rest) rfl (by rw [hb]; exact hdg)
  obtain ⟨t, st, q⟩ := kk (U.setVm vm') hU X1
  exact ⟨t, st1 t st, q⟩
theorem vx_putfNN {D cl tys} {own ref C host : String} {T : u_T} {N ci index : Nat} {Ts : List Cond} (hexec : p.tables.exec = Jvm.exec) (hb : c.code = cc) (hts : ∀ w ∈ Ts, w.before args s = true) (hin : ∀ w ∈ u_ws C T N, w ∈ Ts) (hown : s.vm.findClass own = some m.cls) (hK : va_K D cl tys s) (hc : cl[ci]? = some (C, T, N)) (k : Nat) (hk : k < N) (hlink : (Cond.fieldLinkNest own index ref (T k).2.1 (T k).2.2.1 host).before args s = true) (hsame : ∀ x, s.fieldFound? (T k).1 (T k).2.1 (T k).2.2.1 = some x → s.fieldFound? ref (T k).2.1 (T k).2.2.1 = some x) (hfin : (T k).2.2.2 = false) {v : Value} (hdg : decode cc pc = .ok (.putfield index, 3)) (kk : vx_NoteN p l e R s m args below meth c H locs cells slots Q (F0 m pc ls rest)) : W p l e R s m args below meth c H locs cells slots Q (F0 m pc ls (v :: .null :: rest)) := by
  obtain ⟨hS, hfc, kC, hkC, -⟩ := hK.1 ci _ hc
  obtain ⟨cf, kf, fi, f, hi, -⟩ := hS k hk
  have hlay := hts _ (hin _ (u_in_lay hk))
  unfold u_lay at hlay
  rw [if_neg (by rw [hfin]; decide)] at hlay
  obtain ⟨c9, k9, cf9, kf9, fi9, f9, -, -, hi9, hst9, hnf9, -⟩ := Cond.lays_spec hlay
  cases hi.symm.trans hi9
  intro U hU X
  obtain ⟨vm', X1, st1⟩ := X.putfieldNullNest hexec hown hlink (hsame _ hi) hst9 hnf9 (g := F0 m pc ls (v :: .null :: rest)) rfl (v := v) (rest := rest) rfl (by rw [hb]; exact hdg)
  obtain ⟨t, st, q⟩ := kk (U.setVm vm') hU X1
  exact ⟨t, st1 t st, q⟩
theorem vx_athrowN (hexec : p.tables.exec = Jvm.exec) (hb : c.code = cc) (hdg : decode cc pc = .ok (.athrow, 1)) (k : vx_NoteN p l e R s m args below meth c H locs cells slots Q (F0 m pc ls rest)) : W p l e R s m args below meth c H locs cells slots Q (F0 m pc ls (.null :: rest)) := by
  intro T hT X
  obtain ⟨t, st, q⟩ := k T hT X
  exact ⟨t, X.athrowNull hexec (g := F0 m pc ls (.null :: rest)) rfl (rest := rest) rfl (by rw [hb]; exact hdg) t st, q⟩
end VXM2
/-! ===== END ===== -/
end
section
-- ===== PART A: goes FIRST, ahead of the names: the tables' words, and 'selects' of the private methods out of them =====
/-- a private method of a class that the tables say can be made, by its rows of tables_1 -/
def lw_okq (q : MethodName × Nat) : Prop := (q.1.cls ≠ "java/lang/invoke/MethodHandle" ∧ q.1.cls ≠ "java/lang/invoke/VarHandle") ∧ Cond.instantiable q.1.cls q.2 ∈ tables_1 ∧ Cond.privateMethod q.1 ∈ tables_1 ∧ Cond.instanceMethod q.1 ∈ tables_1
theorem lw_p0 : lw_okq (⟨"PebbleProofs$Board", "measureFrom", "(I)V"⟩, 9) := ⟨⟨by decide +kernel, by decide +kernel⟩, List.mem_of_getElem? (i := 43) (by decide +kernel), List.mem_of_getElem? (i := 188) (by decide +kernel), List.mem_of_getElem? (i := 189) (by decide +kernel)⟩
theorem lw_p1 : lw_okq (⟨"PebbleProofs$SetupText", "readToken", "()V"⟩, 7) := ⟨⟨by decide +kernel, by decide +kernel⟩, List.mem_of_getElem? (i := 108) (by decide +kernel), List.mem_of_getElem? (i := 235) (by decide +kernel), List.mem_of_getElem? (i := 236) (by decide +kernel)⟩
theorem lw_p2 : lw_okq (⟨"PebbleProofs$SetupText", "endOfRun", "(II)I"⟩, 7) := ⟨⟨by decide +kernel, by decide +kernel⟩, List.mem_of_getElem? (i := 108) (by decide +kernel), List.mem_of_getElem? (i := 239) (by decide +kernel), List.mem_of_getElem? (i := 240) (by decide +kernel)⟩
theorem lw_p3 : lw_okq (⟨"PebbleProofs$SetupText", "numberRead", "()I"⟩, 7) := ⟨⟨by decide +kernel, by decide +kernel⟩, List.mem_of_getElem? (i := 108) (by decide +kernel), List.mem_of_getElem? (i := 246) (by decide +kernel), List.mem_of_getElem? (i := 247) (by decide +kernel)⟩
theorem lw_p4 : lw_okq (⟨"PebbleProofs$SetupText", "readVertices", "()Z"⟩, 7) := ⟨⟨by decide +kernel, by decide +kernel⟩, List.mem_of_getElem? (i := 108) (by decide +kernel), List.mem_of_getElem? (i := 250) (by decide +kernel), List.mem_of_getElem? (i := 251) (by decide +kernel)⟩
theorem lw_p5 : lw_okq (⟨"PebbleProofs$SetupText", "isWord", "(Ljava/lang/String;)Z"⟩, 7) := ⟨⟨by decide +kernel, by decide +kernel⟩, List.mem_of_getElem? (i := 108) (by decide +kernel), List.mem_of_getElem? (i := 255) (by decide +kernel), List.mem_of_getElem? (i := 256) (by decide +kernel)⟩
theorem lw_p6 : lw_okq (⟨"PebbleProofs$SetupText", "isNumber", "(II)Z"⟩, 7) := ⟨⟨by decide +kernel, by decide +kernel⟩, List.mem_of_getElem? (i := 108) (by decide +kernel), List.mem_of_getElem? (i := 307) (by decide +kernel), List.mem_of_getElem? (i := 308) (by decide +kernel)⟩
theorem lw_p7 : lw_okq (⟨"PebbleProofs$SetupText", "isSemicolon", "()Z"⟩, 7) := ⟨⟨by decide +kernel, by decide +kernel⟩, List.mem_of_getElem? (i := 108) (by decide +kernel), List.mem_of_getElem? (i := 312) (by decide +kernel), List.mem_of_getElem? (i := 313) (by decide +kernel)⟩
theorem lw_p8 : lw_okq (⟨"PebbleProofs$SetupText", "readStatement", "()Z"⟩, 7) := ⟨⟨by decide +kernel, by decide +kernel⟩, List.mem_of_getElem? (i := 108) (by decide +kernel), List.mem_of_getElem? (i := 316) (by decide +kernel), List.mem_of_getElem? (i := 317) (by decide +kernel)⟩
theorem lw_p9 : lw_okq (⟨"PebbleProofs$SetupText", "readPath", "()Z"⟩, 7) := ⟨⟨by decide +kernel, by decide +kernel⟩, List.mem_of_getElem? (i := 108) (by decide +kernel), List.mem_of_getElem? (i := 321) (by decide +kernel), List.mem_of_getElem? (i := 322) (by decide +kernel)⟩
theorem lw_p10 : lw_okq (⟨"PebbleProofs$SetupText", "isVertex", "()Z"⟩, 7) := ⟨⟨by decide +kernel, by decide +kernel⟩, List.mem_of_getElem? (i := 108) (by decide +kernel), List.mem_of_getElem? (i := 325) (by decide +kernel), List.mem_of_getElem? (i := 326) (by decide +kernel)⟩
theorem lw_p11 : lw_okq (⟨"PebbleProofs$SetupText", "readPile", "()Z"⟩, 7) := ⟨⟨by decide +kernel, by decide +kernel⟩, List.mem_of_getElem? (i := 108) (by decide +kernel), List.mem_of_getElem? (i := 335) (by decide +kernel), List.mem_of_getElem? (i := 336) (by decide +kernel)⟩
theorem lw_p12 : lw_okq (⟨"PebbleProofs$SetupText", "readStrategy", "()Z"⟩, 7) := ⟨⟨by decide +kernel, by decide +kernel⟩, List.mem_of_getElem? (i := 108) (by decide +kernel), List.mem_of_getElem? (i := 340) (by decide +kernel), List.mem_of_getElem? (i := 341) (by decide +kernel)⟩
theorem lw_p13 : lw_okq (⟨"PebbleProofs$SetupText", "readWeight", "(I)Z"⟩, 7) := ⟨⟨by decide +kernel, by decide +kernel⟩, List.mem_of_getElem? (i := 108) (by decide +kernel), List.mem_of_getElem? (i := 352) (by decide +kernel), List.mem_of_getElem? (i := 353) (by decide +kernel)⟩
theorem lw_p14 : lw_okq (⟨"PebbleProofs$Board", "isConnectedBy", "(J)Z"⟩, 9) := ⟨⟨by decide +kernel, by decide +kernel⟩, List.mem_of_getElem? (i := 43) (by decide +kernel), List.mem_of_getElem? (i := 361) (by decide +kernel), List.mem_of_getElem? (i := 362) (by decide +kernel)⟩
theorem lw_p15 : lw_okq (⟨"java/lang/Throwable", "fillInStackTrace", "(I)Ljava/lang/Throwable;"⟩, 6) := ⟨⟨by decide +kernel, by decide +kernel⟩, List.mem_of_getElem? (i := 559) (by decide +kernel), List.mem_of_getElem? (i := 557) (by decide +kernel), List.mem_of_getElem? (i := 558) (by decide +kernel)⟩
def lw_privs_1 : List (MethodName × Nat) := [(⟨"PebbleProofs$Board", "measureFrom", "(I)V"⟩, 9), (⟨"PebbleProofs$SetupText", "readToken", "()V"⟩, 7), (⟨"PebbleProofs$SetupText", "endOfRun", "(II)I"⟩, 7), (⟨"PebbleProofs$SetupText", "numberRead", "()I"⟩, 7), (⟨"PebbleProofs$SetupText", "readVertices", "()Z"⟩, 7), (⟨"PebbleProofs$SetupText", "isWord", "(Ljava/lang/String;)Z"⟩, 7), (⟨"PebbleProofs$SetupText", "isNumber", "(II)Z"⟩, 7), (⟨"PebbleProofs$SetupText", "isSemicolon", "()Z"⟩, 7), (⟨"PebbleProofs$SetupText", "readStatement", "()Z"⟩, 7), (⟨"PebbleProofs$SetupText", "readPath", "()Z"⟩, 7), (⟨"PebbleProofs$SetupText", "isVertex", "()Z"⟩, 7), (⟨"PebbleProofs$SetupText", "readPile", "()Z"⟩, 7), (⟨"PebbleProofs$SetupText", "readStrategy", "()Z"⟩, 7), (⟨"PebbleProofs$SetupText", "readWeight", "(I)Z"⟩, 7), (⟨"PebbleProofs$Board", "isConnectedBy", "(J)Z"⟩, 9), (⟨"java/lang/Throwable", "fillInStackTrace", "(I)Ljava/lang/Throwable;"⟩, 6)]
theorem lw_r1 : ∀ q ∈ lw_privs_1, lw_okq q := List.forall_mem_cons.mpr ⟨lw_p0, List.forall_mem_cons.mpr ⟨lw_p1, List.forall_mem_cons.mpr ⟨lw_p2, List.forall_mem_cons.mpr ⟨lw_p3, List.forall_mem_cons.mpr ⟨lw_p4, List.forall_mem_cons.mpr ⟨lw_p5, List.forall_mem_cons.mpr ⟨lw_p6, List.forall_mem_cons.mpr ⟨lw_p7, List.forall_mem_cons.mpr ⟨lw_p8, List.forall_mem_cons.mpr ⟨lw_p9, List.forall_mem_cons.mpr ⟨lw_p10, List.forall_mem_cons.mpr ⟨lw_p11, List.forall_mem_cons.mpr ⟨lw_p12, List.forall_mem_cons.mpr ⟨lw_p13, List.forall_mem_cons.mpr ⟨lw_p14, List.forall_mem_cons.mpr ⟨lw_p15, fun _ h => absurd h List.not_mem_nil⟩⟩⟩⟩⟩⟩⟩⟩⟩⟩⟩⟩⟩⟩⟩⟩
theorem lw_p16 : lw_okq (⟨"java/util/ArrayList", "add", "(Ljava/lang/Object;[Ljava/lang/Object;I)V"⟩, 3) := ⟨⟨by decide +kernel, by decide +kernel⟩, List.mem_of_getElem? (i := 411) (by decide +kernel), List.mem_of_getElem? (i := 596) (by decide +kernel), List.mem_of_getElem? (i := 597) (by decide +kernel)⟩
theorem lw_p17 : lw_okq (⟨"java/util/ArrayList", "grow", "()[Ljava/lang/Object;"⟩, 3) := ⟨⟨by decide +kernel, by decide +kernel⟩, List.mem_of_getElem? (i := 411) (by decide +kernel), List.mem_of_getElem? (i := 600) (by decide +kernel), List.mem_of_getElem? (i := 601) (by decide +kernel)⟩
theorem lw_p18 : lw_okq (⟨"java/util/ArrayList", "grow", "(I)[Ljava/lang/Object;"⟩, 3) := ⟨⟨by decide +kernel, by decide +kernel⟩, List.mem_of_getElem? (i := 411) (by decide +kernel), List.mem_of_getElem? (i := 604) (by decide +kernel), List.mem_of_getElem? (i := 605) (by decide +kernel)⟩
theorem lw_p19 : lw_okq (⟨"PebbleProofs", "needVertex", "(I)V"⟩, 9) := ⟨⟨by decide +kernel, by decide +kernel⟩, List.mem_of_getElem? (i := 35) (by decide +kernel), List.mem_of_getElem? (i := 943) (by decide +kernel), List.mem_of_getElem? (i := 944) (by decide +kernel)⟩
theorem lw_p20 : lw_okq (⟨"PebbleProofs", "needStrategy", "(I)V"⟩, 9) := ⟨⟨by decide +kernel, by decide +kernel⟩, List.mem_of_getElem? (i := 35) (by decide +kernel), List.mem_of_getElem? (i := 1032) (by decide +kernel), List.mem_of_getElem? (i := 1033) (by decide +kernel)⟩
theorem lw_p21 : lw_okq (⟨"PebbleProofs", "refuse", "(I)V"⟩, 9) := ⟨⟨by decide +kernel, by decide +kernel⟩, List.mem_of_getElem? (i := 35) (by decide +kernel), List.mem_of_getElem? (i := 1111) (by decide +kernel), List.mem_of_getElem? (i := 1112) (by decide +kernel)⟩
theorem lw_p22 : lw_okq (⟨"PebbleProofsLaw$Yard", "aim", "(I)V"⟩, 8) := ⟨⟨by decide +kernel, by decide +kernel⟩, List.mem_of_getElem? (i := 402) (by decide +kernel), List.mem_of_getElem? (i := 1183) (by decide +kernel), List.mem_of_getElem? (i := 1184) (by decide +kernel)⟩
theorem lw_p23 : lw_okq (⟨"java/util/ArrayList", "fastRemove", "([Ljava/lang/Object;I)V"⟩, 3) := ⟨⟨by decide +kernel, by decide +kernel⟩, List.mem_of_getElem? (i := 411) (by decide +kernel), List.mem_of_getElem? (i := 1204) (by decide +kernel), List.mem_of_getElem? (i := 1205) (by decide +kernel)⟩
theorem lw_p24 : lw_okq (⟨"PebbleProofs", "needTwoVertices", "(II)V"⟩, 9) := ⟨⟨by decide +kernel, by decide +kernel⟩, List.mem_of_getElem? (i := 35) (by decide +kernel), List.mem_of_getElem? (i := 1219) (by decide +kernel), List.mem_of_getElem? (i := 1220) (by decide +kernel)⟩
theorem lw_p25 : lw_okq (⟨"PebbleProofs", "failingPilesOf", "(I)LPebbleProofs$FailingPiles;"⟩, 9) := ⟨⟨by decide +kernel, by decide +kernel⟩, List.mem_of_getElem? (i := 35) (by decide +kernel), List.mem_of_getElem? (i := 1262) (by decide +kernel), List.mem_of_getElem? (i := 1263) (by decide +kernel)⟩
theorem lw_p26 : lw_okq (⟨"PebbleProofs$FailingPiles", "clear", "(LPebbleProofs$Board;)V"⟩, 12) := ⟨⟨by decide +kernel, by decide +kernel⟩, List.mem_of_getElem? (i := 1265) (by decide +kernel), List.mem_of_getElem? (i := 1316) (by decide +kernel), List.mem_of_getElem? (i := 1317) (by decide +kernel)⟩
theorem lw_p27 : lw_okq (⟨"PebbleProofs$FailingPiles", "mark", "(I)V"⟩, 12) := ⟨⟨by decide +kernel, by decide +kernel⟩, List.mem_of_getElem? (i := 1265) (by decide +kernel), List.mem_of_getElem? (i := 1323) (by decide +kernel), List.mem_of_getElem? (i := 1324) (by decide +kernel)⟩
theorem lw_p28 : lw_okq (⟨"PebbleProofs$FailingPiles", "extend", "([III)I"⟩, 12) := ⟨⟨by decide +kernel, by decide +kernel⟩, List.mem_of_getElem? (i := 1265) (by decide +kernel), List.mem_of_getElem? (i := 1327) (by decide +kernel), List.mem_of_getElem? (i := 1328) (by decide +kernel)⟩
theorem lw_p29 : lw_okq (⟨"PebbleProofs$FailingPiles", "hasRoom", "(II)Z"⟩, 12) := ⟨⟨by decide +kernel, by decide +kernel⟩, List.mem_of_getElem? (i := 1265) (by decide +kernel), List.mem_of_getElem? (i := 1331) (by decide +kernel), List.mem_of_getElem? (i := 1332) (by decide +kernel)⟩
theorem lw_p30 : lw_okq (⟨"PebbleProofs$FailingPiles", "fails", "(I)Z"⟩, 12) := ⟨⟨by decide +kernel, by decide +kernel⟩, List.mem_of_getElem? (i := 1265) (by decide +kernel), List.mem_of_getElem? (i := 1335) (by decide +kernel), List.mem_of_getElem? (i := 1336) (by decide +kernel)⟩
theorem lw_p31 : lw_okq (⟨"PebbleProofs$FailingPiles", "failsAfterMoveFrom", "(II)Z"⟩, 12) := ⟨⟨by decide +kernel, by decide +kernel⟩, List.mem_of_getElem? (i := 1265) (by decide +kernel), List.mem_of_getElem? (i := 1343) (by decide +kernel), List.mem_of_getElem? (i := 1344) (by decide +kernel)⟩
def lw_privs_2 : List (MethodName × Nat) := [(⟨"java/util/ArrayList", "add", "(Ljava/lang/Object;[Ljava/lang/Object;I)V"⟩, 3), (⟨"java/util/ArrayList", "grow", "()[Ljava/lang/Object;"⟩, 3), (⟨"java/util/ArrayList", "grow", "(I)[Ljava/lang/Object;"⟩, 3), (⟨"PebbleProofs", "needVertex", "(I)V"⟩, 9), (⟨"PebbleProofs", "needStrategy", "(I)V"⟩, 9), (⟨"PebbleProofs", "refuse", "(I)V"⟩, 9), (⟨"PebbleProofsLaw$Yard", "aim", "(I)V"⟩, 8), (⟨"java/util/ArrayList", "fastRemove", "([Ljava/lang/Object;I)V"⟩, 3), (⟨"PebbleProofs", "needTwoVertices", "(II)V"⟩, 9), (⟨"PebbleProofs", "failingPilesOf", "(I)LPebbleProofs$FailingPiles;"⟩, 9), (⟨"PebbleProofs$FailingPiles", "clear", "(LPebbleProofs$Board;)V"⟩, 12), (⟨"PebbleProofs$FailingPiles", "mark", "(I)V"⟩, 12), (⟨"PebbleProofs$FailingPiles", "extend", "([III)I"⟩, 12), (⟨"PebbleProofs$FailingPiles", "hasRoom", "(II)Z"⟩, 12), (⟨"PebbleProofs$FailingPiles", "fails", "(I)Z"⟩, 12), (⟨"PebbleProofs$FailingPiles", "failsAfterMoveFrom", "(II)Z"⟩, 12)]
theorem lw_r2 : ∀ q ∈ lw_privs_2, lw_okq q := List.forall_mem_cons.mpr ⟨lw_p16, List.forall_mem_cons.mpr ⟨lw_p17, List.forall_mem_cons.mpr ⟨lw_p18, List.forall_mem_cons.mpr ⟨lw_p19, List.forall_mem_cons.mpr ⟨lw_p20, List.forall_mem_cons.mpr ⟨lw_p21, List.forall_mem_cons.mpr ⟨lw_p22, List.forall_mem_cons.mpr ⟨lw_p23, List.forall_mem_cons.mpr ⟨lw_p24, List.forall_mem_cons.mpr ⟨lw_p25, List.forall_mem_cons.mpr ⟨lw_p26, List.forall_mem_cons.mpr ⟨lw_p27, List.forall_mem_cons.mpr ⟨lw_p28, List.forall_mem_cons.mpr ⟨lw_p29, List.forall_mem_cons.mpr ⟨lw_p30, List.forall_mem_cons.mpr ⟨lw_p31, fun _ h => absurd h List.not_mem_nil⟩⟩⟩⟩⟩⟩⟩⟩⟩⟩⟩⟩⟩⟩⟩⟩
theorem lw_p32 : lw_okq (⟨"PebbleProofs$FailingPiles", "isMarked", "(I)Z"⟩, 12) := ⟨⟨by decide +kernel, by decide +kernel⟩, List.mem_of_getElem? (i := 1265) (by decide +kernel), List.mem_of_getElem? (i := 1347) (by decide +kernel), List.mem_of_getElem? (i := 1348) (by decide +kernel)⟩
theorem lw_p33 : lw_okq (⟨"PebbleProofs", "firstMove", "(LPebbleProofs$FailingPiles;)I"⟩, 9) := ⟨⟨by decide +kernel, by decide +kernel⟩, List.mem_of_getElem? (i := 35) (by decide +kernel), List.mem_of_getElem? (i := 1355) (by decide +kernel), List.mem_of_getElem? (i := 1356) (by decide +kernel)⟩
theorem lw_p34 : lw_okq (⟨"PebbleProofs", "failsAfter", "(IILPebbleProofs$FailingPiles;)Z"⟩, 9) := ⟨⟨by decide +kernel, by decide +kernel⟩, List.mem_of_getElem? (i := 35) (by decide +kernel), List.mem_of_getElem? (i := 1364) (by decide +kernel), List.mem_of_getElem? (i := 1365) (by decide +kernel)⟩
def lw_privs_3 : List (MethodName × Nat) := [(⟨"PebbleProofs$FailingPiles", "isMarked", "(I)Z"⟩, 12), (⟨"PebbleProofs", "firstMove", "(LPebbleProofs$FailingPiles;)I"⟩, 9), (⟨"PebbleProofs", "failsAfter", "(IILPebbleProofs$FailingPiles;)Z"⟩, 9)]
theorem lw_r3 : ∀ q ∈ lw_privs_3, lw_okq q := List.forall_mem_cons.mpr ⟨lw_p32, List.forall_mem_cons.mpr ⟨lw_p33, List.forall_mem_cons.mpr ⟨lw_p34, fun _ h => absurd h List.not_mem_nil⟩⟩⟩
def lw_privs : List (MethodName × Nat) := lw_privs_1 ++ (lw_privs_2 ++ (lw_privs_3))
/-- what a call of a private method of StringBuilder's parent class selects -/
def lw_up : List MethodName := [⟨"java/lang/AbstractStringBuilder", "ensureCapacityInternal", "(I)V"⟩, ⟨"java/lang/AbstractStringBuilder", "newCapacity", "(I)I"⟩, ⟨"java/lang/AbstractStringBuilder", "putStringAt", "(ILjava/lang/String;)V"⟩, ⟨"java/lang/AbstractStringBuilder", "inflateIfNeededFor", "(Ljava/lang/String;)V"⟩]
theorem lw_up_ok : ∀ y ∈ lw_up, (y.cls ≠ "java/lang/invoke/MethodHandle" ∧ y.cls ≠ "java/lang/invoke/VarHandle") ∧ Cond.instantiable "java/lang/StringBuilder" 4 ∈ tables_1 ∧ Cond.privateMethod y ∈ tables_1 ∧ Cond.instanceMethod y ∈ tables_1 ∧ Cond.sameMethod y.cls y.cls y.name y.desc ∈ tables_1 := by decide +kernel
theorem lw_sel_up {y : MethodName} {s : State} {args : Array Value} {n : Nat} {C : String} (hy : y.cls ≠ "java/lang/invoke/MethodHandle" ∧ y.cls ≠ "java/lang/invoke/VarHandle") (hins : (Cond.instantiable C n).before args s = true) (hpriv : (Cond.privateMethod y).before args s = true) (hinst : (Cond.instanceMethod y).before args s = true) (hsame : (Cond.sameMethod y.cls y.cls y.name y.desc).before args s = true) : (Cond.selects C y y).before args s = true := by
  obtain ⟨c, k, hc, -⟩ := Cond.instantiable_spec hins
  obtain ⟨mk, methM, hnamed, hmethM, -, -⟩ := Cond.instanceMethod_spec hinst
  obtain ⟨cn, ck, r1, hcn, hck, hni, -, -⟩ := Cond.sameMethod_found hsame
  have hfound : s.methodFound? y.cls y.name y.desc = some mk := State.methodFound?_of_named hnamed hy
  have hcls : mk.cls = cn := Option.some.inj ((findClass_of_methodNamed hnamed).symm.trans hcn)
  have hsel : selectMethod {} s.vm c mk = .method mk := selectMethod_private hmethM (Cond.privateMethod_at hpriv mk methM hnamed hmethM)
  simp only [Cond.before, Cond.holds, Cond.value, hc, hfound, hnamed, hsel, hcls, hck]
  simp; exact hni
def lw_ups : List Cond := lw_up.map fun y => Cond.selects "java/lang/StringBuilder" y y
def lw_tbl : List Cond := (k2_sels lw_privs ++ tables_1) ++ lw_ups
theorem lw_privs_ok : ∀ q ∈ lw_privs, lw_okq q := by
  show ∀ q ∈ lw_privs_1 ++ (lw_privs_2 ++ (lw_privs_3)), lw_okq q
  exact List.forall_mem_append.mpr ⟨lw_r1, List.forall_mem_append.mpr ⟨lw_r2, lw_r3⟩⟩
theorem lw_tbl_ok {args : Array Value} {s : State} (hts : ∀ w ∈ tables_1, w.before args s = true) : ∀ w ∈ lw_tbl, w.before args s = true := by
  intro w hw
  rcases List.mem_append.mp hw with hw | hw
  · exact k2_hts_sels lw_privs hts lw_privs_ok w hw
  · obtain ⟨y, hy, rfl⟩ := List.mem_map.mp hw
    obtain ⟨h0, h1, h2, h3, h4⟩ := lw_up_ok y hy
    exact lw_sel_up h0 (hts _ h1) (hts _ h2) (hts _ h3) (hts _ h4)
end
section
/-! ===== the classes and the program as tables (by wip/p47/gentab.py) ===== -/
abbrev AC : Type := (Nat × vp_A) ⊕ (Nat × List Value)
abbrev AHp : Type := List AC
abbrev ALs : Type := List (Option Value)
/-- pc, instruction, two numbers that tell what it is resolved to -/
abbrev AEn : Type := Nat × Instr × Nat × Nat
/-- name, code, locals, parameters, what it returns, its handlers (start, end, handler, index, class), its instructions -/
abbrev AMe : Type := MethodName × ByteArray × Nat × Nat × Option FieldType × List (Nat × Nat × Nat × Nat × Nat) × List AEn
def am_T0 : u_T := fun k => match k with
  | 0 => ("PebbleProofs$Board", "vertices", "I", false)
  | 1 => ("PebbleProofs$Board", "edges", "J", false)
  | 2 => ("PebbleProofs$Board", "moveCount", "I", false)
  | 3 => ("PebbleProofs$Board", "strategyCount", "I", false)
  | 4 => ("PebbleProofs$Board", "pile", "[I", true)
  | 5 => ("PebbleProofs$Board", "distances", "[I", true)
  | 6 => ("PebbleProofs$Board", "targets", "[I", true)
  | 7 => ("PebbleProofs$Board", "weights", "[I", true)
  | _ => ("PebbleProofs$Board", "parents", "[I", true)
def am_t0 : Nat → FieldType := fun k => match k with
  | 0 => .int
  | 1 => .long
  | 2 => .int
  | 3 => .int
  | 4 => .array .int
  | 5 => .array .int
  | 6 => .array .int
  | 7 => .array .int
  | _ => .array .int
theorem am_n0 : ∀ a, a < 9 → ∀ b, b < 9 → a ≠ b → (am_T0 a).2.1 ≠ (am_T0 b).2.1 := by decide +kernel
theorem am_t0_ok : ∀ k, k < 9 → parseFieldDescriptor (am_T0 k).2.2.1 = some (am_t0 k) := by decide +kernel
theorem am_w0 : ∀ w ∈ u_ws "PebbleProofs$Board" am_T0 9, w ∈ lw_tbl := by decide +kernel
def am_T1 : u_T := fun k => match k with
  | 0 => ("PebbleProofs$FailingPiles", "target", "I", true)
  | 1 => ("PebbleProofs$FailingPiles", "isMade", "Z", false)
  | 2 => ("PebbleProofs$FailingPiles", "vertices", "I", false)
  | 3 => ("PebbleProofs$FailingPiles", "edges", "J", false)
  | 4 => ("PebbleProofs$FailingPiles", "leastNumber", "I", false)
  | 5 => ("PebbleProofs$FailingPiles", "worstCount", "I", false)
  | 6 => ("PebbleProofs$FailingPiles", "firstWorst", "I", false)
  | 7 => ("PebbleProofs$FailingPiles", "howMany", "[I", true)
  | 8 => ("PebbleProofs$FailingPiles", "limits", "[I", true)
  | 9 => ("PebbleProofs$FailingPiles", "shifts", "[I", true)
  | 10 => ("PebbleProofs$FailingPiles", "near", "[I", true)
  | _ => ("PebbleProofs$FailingPiles", "marks", "[I", true)
def am_t1 : Nat → FieldType := fun k => match k with
  | 0 => .int
  | 1 => .boolean
  | 2 => .int
  | 3 => .long
  | 4 => .int
  | 5 => .int
  | 6 => .int
  | 7 => .array .int
  | 8 => .array .int
  | 9 => .array .int
  | 10 => .array .int
  | _ => .array .int
theorem am_n1 : ∀ a, a < 12 → ∀ b, b < 12 → a ≠ b → (am_T1 a).2.1 ≠ (am_T1 b).2.1 := by decide +kernel
theorem am_t1_ok : ∀ k, k < 12 → parseFieldDescriptor (am_T1 k).2.2.1 = some (am_t1 k) := by decide +kernel
theorem am_w1 : ∀ w ∈ u_ws "PebbleProofs$FailingPiles" am_T1 12, w ∈ lw_tbl := by decide +kernel
def am_T2 : u_T := fun k => match k with
  | 0 => ("PebbleProofs$History", "ring", "[LPebbleProofs$Board;", true)
  | 1 => ("PebbleProofs$History", "oldest", "I", false)
  | _ => ("PebbleProofs$History", "size", "I", false)
def am_t2 : Nat → FieldType := fun k => match k with
  | 0 => .array (.object "PebbleProofs$Board")
  | 1 => .int
  | _ => .int
theorem am_n2 : ∀ a, a < 3 → ∀ b, b < 3 → a ≠ b → (am_T2 a).2.1 ≠ (am_T2 b).2.1 := by decide +kernel
theorem am_t2_ok : ∀ k, k < 3 → parseFieldDescriptor (am_T2 k).2.2.1 = some (am_t2 k) := by decide +kernel
theorem am_w2 : ∀ w ∈ u_ws "PebbleProofs$History" am_T2 3, w ∈ lw_tbl := by decide +kernel
def am_T3 : u_T := fun k => match k with
  | 0 => ("PebbleProofs$Outlook", "isMade", "Z", false)
  | 1 => ("PebbleProofs$Outlook", "vertices", "I", false)
  | 2 => ("PebbleProofs$Outlook", "edges", "J", false)
  | 3 => ("PebbleProofs$Outlook", "firstPile", "I", false)
  | 4 => ("PebbleProofs$Outlook", "pileCount", "I", false)
  | 5 => ("PebbleProofs$Outlook", "fewestEmpty", "I", false)
  | 6 => ("PebbleProofs$Outlook", "fewestMoves", "[I", true)
  | 7 => ("PebbleProofs$Outlook", "row", "[I", true)
  | _ => ("PebbleProofs$Outlook", "slots", "[I", true)
def am_t3 : Nat → FieldType := fun k => match k with
  | 0 => .boolean
  | 1 => .int
  | 2 => .long
  | 3 => .int
  | 4 => .int
  | 5 => .int
  | 6 => .array .int
  | 7 => .array .int
  | _ => .array .int
theorem am_n3 : ∀ a, a < 9 → ∀ b, b < 9 → a ≠ b → (am_T3 a).2.1 ≠ (am_T3 b).2.1 := by decide +kernel
theorem am_t3_ok : ∀ k, k < 9 → parseFieldDescriptor (am_T3 k).2.2.1 = some (am_t3 k) := by decide +kernel
theorem am_w3 : ∀ w ∈ u_ws "PebbleProofs$Outlook" am_T3 9, w ∈ lw_tbl := by decide +kernel
def am_T4 : u_T := fun k => match k with
  | 0 => ("PebbleProofs$SetupText", "bytes", "[I", true)
  | 1 => ("PebbleProofs$SetupText", "length", "I", false)
  | 2 => ("PebbleProofs$SetupText", "draft", "LPebbleProofs$Board;", true)
  | 3 => ("PebbleProofs$SetupText", "kind", "I", false)
  | 4 => ("PebbleProofs$SetupText", "start", "I", false)
  | 5 => ("PebbleProofs$SetupText", "stop", "I", false)
  | _ => ("PebbleProofs$SetupText", "value", "I", false)
def am_t4 : Nat → FieldType := fun k => match k with
  | 0 => .array .int
  | 1 => .int
  | 2 => .object "PebbleProofs$Board"
  | 3 => .int
  | 4 => .int
  | 5 => .int
  | _ => .int
theorem am_n4 : ∀ a, a < 7 → ∀ b, b < 7 → a ≠ b → (am_T4 a).2.1 ≠ (am_T4 b).2.1 := by decide +kernel
theorem am_t4_ok : ∀ k, k < 7 → parseFieldDescriptor (am_T4 k).2.2.1 = some (am_t4 k) := by decide +kernel
theorem am_w4 : ∀ w ∈ u_ws "PebbleProofs$SetupText" am_T4 7, w ∈ lw_tbl := by decide +kernel
def am_T5 : u_T := fun k => match k with
  | 0 => ("PebbleProofs", "board", "LPebbleProofs$Board;", true)
  | 1 => ("PebbleProofs", "savedBoard", "LPebbleProofs$Board;", true)
  | 2 => ("PebbleProofs", "hasSaved", "Z", false)
  | 3 => ("PebbleProofs", "history", "LPebbleProofs$History;", true)
  | 4 => ("PebbleProofs", "input", "LPebbleProofs$SetupText;", true)
  | 5 => ("PebbleProofs", "outlook", "LPebbleProofs$Outlook;", true)
  | 6 => ("PebbleProofs", "failingPiles", "[LPebbleProofs$FailingPiles;", true)
  | 7 => ("PebbleProofs", "workRow", "[I", true)
  | _ => ("PebbleProofs", "refusal", "I", false)
def am_t5 : Nat → FieldType := fun k => match k with
  | 0 => .object "PebbleProofs$Board"
  | 1 => .object "PebbleProofs$Board"
  | 2 => .boolean
  | 3 => .object "PebbleProofs$History"
  | 4 => .object "PebbleProofs$SetupText"
  | 5 => .object "PebbleProofs$Outlook"
  | 6 => .array (.object "PebbleProofs$FailingPiles")
  | 7 => .array .int
  | _ => .int
theorem am_n5 : ∀ a, a < 9 → ∀ b, b < 9 → a ≠ b → (am_T5 a).2.1 ≠ (am_T5 b).2.1 := by decide +kernel
theorem am_t5_ok : ∀ k, k < 9 → parseFieldDescriptor (am_T5 k).2.2.1 = some (am_t5 k) := by decide +kernel
theorem am_w5 : ∀ w ∈ u_ws "PebbleProofs" am_T5 9, w ∈ lw_tbl := by decide +kernel
def am_T6 : u_T := fun k => match k with
  | _ => ("PebbleProofsLaw$Why", "reason", "I", false)
def am_t6 : Nat → FieldType := fun k => match k with
  | _ => .int
theorem am_n6 : ∀ a, a < 1 → ∀ b, b < 1 → a ≠ b → (am_T6 a).2.1 ≠ (am_T6 b).2.1 := by decide +kernel
theorem am_t6_ok : ∀ k, k < 1 → parseFieldDescriptor (am_T6 k).2.2.1 = some (am_t6 k) := by decide +kernel
theorem am_w6 : ∀ w ∈ u_ws "PebbleProofsLaw$Why" am_T6 1, w ∈ lw_tbl := by decide +kernel
def am_T7 : u_T := fun k => match k with
  | 0 => ("PebbleProofsLaw$Yard", "many", "I", true)
  | 1 => ("PebbleProofsLaw$Yard", "edge", "[[Z", true)
  | 2 => ("PebbleProofsLaw$Yard", "pebbles", "[I", true)
  | 3 => ("PebbleProofsLaw$Yard", "moves", "I", false)
  | 4 => ("PebbleProofsLaw$Yard", "strategies", "Ljava/util/ArrayList;", true)
  | 5 => ("PebbleProofsLaw$Yard", "known", "[B", false)
  | 6 => ("PebbleProofsLaw$Yard", "knownFor", "I", false)
  | _ => ("PebbleProofsLaw$Yard", "farFrom", "[I", false)
def am_t7 : Nat → FieldType := fun k => match k with
  | 0 => .int
  | 1 => .array (.array .boolean)
  | 2 => .array .int
  | 3 => .int
  | 4 => .object "java/util/ArrayList"
  | 5 => .array .byte
  | 6 => .int
  | _ => .array .int
theorem am_n7 : ∀ a, a < 8 → ∀ b, b < 8 → a ≠ b → (am_T7 a).2.1 ≠ (am_T7 b).2.1 := by decide +kernel
theorem am_t7_ok : ∀ k, k < 8 → parseFieldDescriptor (am_T7 k).2.2.1 = some (am_t7 k) := by decide +kernel
theorem am_w7 : ∀ w ∈ u_ws "PebbleProofsLaw$Yard" am_T7 8, w ∈ lw_tbl := by decide +kernel
def am_T8 : u_T := fun k => match k with
  | 0 => ("java/lang/String", "value", "[B", true)
  | 1 => ("java/lang/String", "coder", "B", true)
  | 2 => ("java/lang/String", "hash", "I", false)
  | _ => ("java/lang/String", "hashIsZero", "Z", false)
def am_t8 : Nat → FieldType := fun k => match k with
  | 0 => .array .byte
  | 1 => .byte
  | 2 => .int
  | _ => .boolean
theorem am_n8 : ∀ a, a < 4 → ∀ b, b < 4 → a ≠ b → (am_T8 a).2.1 ≠ (am_T8 b).2.1 := by decide +kernel
theorem am_t8_ok : ∀ k, k < 4 → parseFieldDescriptor (am_T8 k).2.2.1 = some (am_t8 k) := by decide +kernel
theorem am_w8 : ∀ w ∈ u_ws "java/lang/String" am_T8 4, w ∈ lw_tbl := by decide +kernel
def am_T9 : u_T := fun k => match k with
  | 0 => ("java/lang/AbstractStringBuilder", "value", "[B", false)
  | 1 => ("java/lang/AbstractStringBuilder", "coder", "B", false)
  | 2 => ("java/lang/AbstractStringBuilder", "maybeLatin1", "Z", false)
  | _ => ("java/lang/AbstractStringBuilder", "count", "I", false)
def am_t9 : Nat → FieldType := fun k => match k with
  | 0 => .array .byte
  | 1 => .byte
  | 2 => .boolean
  | _ => .int
theorem am_n9 : ∀ a, a < 4 → ∀ b, b < 4 → a ≠ b → (am_T9 a).2.1 ≠ (am_T9 b).2.1 := by decide +kernel
theorem am_t9_ok : ∀ k, k < 4 → parseFieldDescriptor (am_T9 k).2.2.1 = some (am_t9 k) := by decide +kernel
theorem am_w9 : ∀ w ∈ u_ws "java/lang/StringBuilder" am_T9 4, w ∈ lw_tbl := by decide +kernel
def am_T10 : u_T := fun k => match k with
  | 0 => ("java/util/AbstractList", "modCount", "I", false)
  | 1 => ("java/util/ArrayList", "elementData", "[Ljava/lang/Object;", false)
  | _ => ("java/util/ArrayList", "size", "I", false)
def am_t10 : Nat → FieldType := fun k => match k with
  | 0 => .int
  | 1 => .array (.object "java/lang/Object")
  | _ => .int
theorem am_n10 : ∀ a, a < 3 → ∀ b, b < 3 → a ≠ b → (am_T10 a).2.1 ≠ (am_T10 b).2.1 := by decide +kernel
theorem am_t10_ok : ∀ k, k < 3 → parseFieldDescriptor (am_T10 k).2.2.1 = some (am_t10 k) := by decide +kernel
theorem am_w10 : ∀ w ∈ u_ws "java/util/ArrayList" am_T10 3, w ∈ lw_tbl := by decide +kernel
def am_T11 : u_T := fun k => match k with
  | 0 => ("java/util/ArrayList$Itr", "cursor", "I", false)
  | 1 => ("java/util/ArrayList$Itr", "lastRet", "I", false)
  | 2 => ("java/util/ArrayList$Itr", "expectedModCount", "I", false)
  | _ => ("java/util/ArrayList$Itr", "this$0", "Ljava/util/ArrayList;", true)
def am_t11 : Nat → FieldType := fun k => match k with
  | 0 => .int
  | 1 => .int
  | 2 => .int
  | _ => .object "java/util/ArrayList"
theorem am_n11 : ∀ a, a < 4 → ∀ b, b < 4 → a ≠ b → (am_T11 a).2.1 ≠ (am_T11 b).2.1 := by decide +kernel
theorem am_t11_ok : ∀ k, k < 4 → parseFieldDescriptor (am_T11 k).2.2.1 = some (am_t11 k) := by decide +kernel
theorem am_w11 : ∀ w ∈ u_ws "java/util/ArrayList$Itr" am_T11 4, w ∈ lw_tbl := by decide +kernel
def am_cl : List vw_C := [("PebbleProofs$Board", am_T0, 9), ("PebbleProofs$FailingPiles", am_T1, 12), ("PebbleProofs$History", am_T2, 3), ("PebbleProofs$Outlook", am_T3, 9), ("PebbleProofs$SetupText", am_T4, 7), ("PebbleProofs", am_T5, 9), ("PebbleProofsLaw$Why", am_T6, 1), ("PebbleProofsLaw$Yard", am_T7, 8), ("java/lang/String", am_T8, 4), ("java/lang/StringBuilder", am_T9, 4), ("java/util/ArrayList", am_T10, 3), ("java/util/ArrayList$Itr", am_T11, 4)]
def am_ft : Nat → Nat → FieldType
  | 0 => am_t0
  | 1 => am_t1
  | 2 => am_t2
  | 3 => am_t3
  | 4 => am_t4
  | 5 => am_t5
  | 6 => am_t6
  | 7 => am_t7
  | 8 => am_t8
  | 9 => am_t9
  | 10 => am_t10
  | _ => am_t11
def am_cn : Nat → String
  | 0 => "PebbleProofs$Board"
  | 1 => "PebbleProofs$FailingPiles"
  | 2 => "PebbleProofs$History"
  | 3 => "PebbleProofs$Outlook"
  | 4 => "PebbleProofs$SetupText"
  | 5 => "PebbleProofs"
  | 6 => "PebbleProofsLaw$Why"
  | 7 => "PebbleProofsLaw$Yard"
  | 8 => "java/lang/String"
  | 9 => "java/lang/StringBuilder"
  | 10 => "java/util/ArrayList"
  | 11 => "java/util/ArrayList$Itr"
  | _ => ""
/-- a new object's fields -/
def am_fd : Nat → List Value
  | 0 => [.int 0, .long 0, .int 0, .int 0, .null, .null, .null, .null, .null]
  | 1 => [.int 0, .int 0, .int 0, .long 0, .int 0, .int 0, .int 0, .null, .null, .null, .null, .null]
  | 2 => [.null, .int 0, .int 0]
  | 3 => [.int 0, .int 0, .long 0, .int 0, .int 0, .int 0, .null, .null, .null]
  | 4 => [.null, .int 0, .null, .int 0, .int 0, .int 0, .int 0]
  | 5 => [.null, .null, .int 0, .null, .null, .null, .null, .null, .int 0]
  | 6 => [.int 0]
  | 7 => [.int 0, .null, .null, .int 0, .null, .null, .int 0, .null]
  | 8 => [.null, .int 0, .int 0, .int 0]
  | 9 => [.null, .int 0, .int 0, .int 0]
  | 10 => [.int 0, .null, .int 0]
  | 11 => [.int 0, .int 0, .int 0, .null]
  | _ => []
def am_e0_0 : List AEn := [(0, .aload_n 0, 0, 0), (1, .invokespecial 3, 901, 1), (4, .aload_n 0, 0, 0), (5, .bipush 6, 0, 0), (7, .newarray .int, 0, 0), (9, .putfield 9, 0, 4), (12, .aload_n 0, 0, 0), (13, .bipush 36, 0, 0), (15, .newarray .int, 0, 0), (17, .putfield 15, 0, 5), (20, .aload_n 0, 0, 0), (21, .bipush 6, 0, 0), (23, .newarray .int, 0, 0), (25, .putfield 18, 0, 6), (28, .aload_n 0, 0, 0), (29, .bipush 36, 0, 0), (31, .newarray .int, 0, 0), (33, .putfield 21, 0, 7), (36, .aload_n 0, 0, 0), (37, .bipush 36, 0, 0), (39, .newarray .int, 0, 0), (41, .putfield 24, 0, 8), (44, .return_, 0, 0)]
def am_M0 : AMe := (⟨"PebbleProofs$Board", "<init>", "()V"⟩, prog_2_method_1_code, 1, 0, none, [], am_e0_0)
def am_e1_0 : List AEn := [(0, .aload_n 0, 0, 0), (1, .iload_n 1, 0, 0), (2, .putfield 27, 0, 0), (5, .aload_n 0, 0, 0), (6, .lconst 0, 0, 0), (7, .putfield 31, 0, 1), (10, .aload_n 0, 0, 0), (11, .iconst 0, 0, 0), (12, .putfield 35, 0, 2), (15, .aload_n 0, 0, 0), (16, .iconst 0, 0, 0), (17, .putfield 38, 0, 3), (20, .aload_n 0, 0, 0), (21, .getfield 9, 0, 4), (24, .iconst 0, 0, 0), (25, .invokestatic 41, 261, 2), (28, .return_, 0, 0)]
def am_M1 : AMe := (⟨"PebbleProofs$Board", "begin", "(I)V"⟩, prog_2_method_2_code, 2, 1, none, [], am_e1_0)
def am_e2_0 : List AEn := [(0, .aload_n 0, 0, 0), (1, .aload_n 1, 0, 0), (2, .getfield 27, 0, 0), (5, .putfield 27, 0, 0), (8, .aload_n 0, 0, 0), (9, .aload_n 1, 0, 0), (10, .getfield 31, 0, 1), (13, .putfield 31, 0, 1), (16, .aload_n 0, 0, 0), (17, .aload_n 1, 0, 0), (18, .getfield 35, 0, 2), (21, .putfield 35, 0, 2), (24, .aload_n 0, 0, 0), (25, .aload_n 1, 0, 0), (26, .getfield 38, 0, 3), (29, .putfield 38, 0, 3), (32, .aload_n 1, 0, 0), (33, .getfield 9, 0, 4), (36, .iconst 0, 0, 0), (37, .aload_n 0, 0, 0), (38, .getfield 9, 0, 4), (41, .iconst 0, 0, 0), (42, .bipush 6, 0, 0), (44, .invokestatic 47, 900, 5), (47, .aload_n 1, 0, 0), (48, .getfield 15, 0, 5), (51, .iconst 0, 0, 0), (52, .aload_n 0, 0, 0), (53, .getfield 15, 0, 5), (56, .iconst 0, 0, 0), (57, .bipush 36, 0, 0), (59, .invokestatic 47, 900, 5), (62, .aload_n 1, 0, 0), (63, .getfield 18, 0, 6), (66, .iconst 0, 0, 0), (67, .aload_n 0, 0, 0), (68, .getfield 18, 0, 6), (71, .iconst 0, 0, 0), (72, .bipush 6, 0, 0), (74, .invokestatic 47, 900, 5), (77, .aload_n 1, 0, 0), (78, .getfield 21, 0, 7), (81, .iconst 0, 0, 0), (82, .aload_n 0, 0, 0), (83, .getfield 21, 0, 7), (86, .iconst 0, 0, 0), (87, .bipush 36, 0, 0), (89, .invokestatic 47, 900, 5), (92, .aload_n 1, 0, 0), (93, .getfield 24, 0, 8), (96, .iconst 0, 0, 0), (97, .aload_n 0, 0, 0), (98, .getfield 24, 0, 8), (101, .iconst 0, 0, 0), (102, .bipush 36, 0, 0), (104, .invokestatic 47, 900, 5), (107, .return_, 0, 0)]
def am_M2 : AMe := (⟨"PebbleProofs$Board", "copyFrom", "(LPebbleProofs$Board;)V"⟩, prog_2_method_3_code, 2, 1, none, [], am_e2_0)
def am_e3_0 : List AEn := [(0, .lconst 1, 0, 0), (1, .bipush 6, 0, 0), (3, .iload_n 0, 0, 0), (4, .imul, 0, 0), (5, .iload_n 1, 0, 0), (6, .iadd, 0, 0), (7, .lshl, 0, 0), (8, .lconst 1, 0, 0), (9, .bipush 6, 0, 0), (11, .iload_n 1, 0, 0), (12, .imul, 0, 0), (13, .iload_n 0, 0, 0), (14, .iadd, 0, 0), (15, .lshl, 0, 0), (16, .lor, 0, 0), (17, .lreturn, 0, 0)]
def am_M3 : AMe := (⟨"PebbleProofs$Board", "edgeBits", "(II)J"⟩, prog_2_method_4_code, 2, 2, (some .long), [], am_e3_0)
def am_e4_0 : List AEn := [(0, .aload_n 0, 0, 0), (1, .dup, 0, 0), (2, .getfield 31, 0, 1), (5, .iload_n 1, 0, 0), (6, .iload_n 2, 0, 0), (7, .invokestatic 53, 3, 2), (10, .lor, 0, 0), (11, .putfield 31, 0, 1), (14, .return_, 0, 0)]
def am_M4 : AMe := (⟨"PebbleProofs$Board", "join", "(II)V"⟩, prog_2_method_5_code, 3, 2, none, [], am_e4_0)
def am_e5_0 : List AEn := [(0, .aload_n 0, 0, 0), (1, .dup, 0, 0), (2, .getfield 31, 0, 1), (5, .iload_n 1, 0, 0), (6, .iload_n 2, 0, 0), (7, .invokestatic 53, 3, 2), (10, .ldc2_w 57, 18446744073709551615, 0), (13, .lxor, 0, 0), (14, .land, 0, 0), (15, .putfield 31, 0, 1), (18, .return_, 0, 0)]
def am_M5 : AMe := (⟨"PebbleProofs$Board", "part", "(II)V"⟩, prog_2_method_6_code, 3, 2, none, [], am_e5_0)
def am_e6_0 : List AEn := [(0, .aload_n 0, 0, 0), (1, .getfield 31, 0, 1), (4, .bipush 6, 0, 0), (6, .iload_n 1, 0, 0), (7, .imul, 0, 0), (8, .iload_n 2, 0, 0), (9, .iadd, 0, 0), (10, .lshr, 0, 0), (11, .lconst 1, 0, 0), (12, .land, 0, 0), (13, .lconst 0, 0, 0), (14, .lcmp, 0, 0), (15, .ifCond .eq 7, 22, 0), (18, .iconst 1, 0, 0), (19, .goto 4, 23, 0), (22, .iconst 0, 0, 0), (23, .ireturn, 0, 0)]
def am_M6 : AMe := (⟨"PebbleProofs$Board", "joins", "(II)Z"⟩, prog_2_method_7_code, 3, 2, (some .boolean), [], am_e6_0)
def am_e7_0 : List AEn := [(0, .aload_n 0, 0, 0), (1, .getfield 31, 0, 1), (4, .invokestatic 59, 254, 1), (7, .iconst 2, 0, 0), (8, .idiv, 0, 0), (9, .ireturn, 0, 0)]
def am_M7 : AMe := (⟨"PebbleProofs$Board", "edgeCount", "()I"⟩, prog_2_method_8_code, 1, 0, (some .int), [], am_e7_0)
def am_e8_0 : List AEn := [(0, .lload_n 0, 0, 0), (1, .bipush 6, 0, 0), (3, .iload_n 2, 0, 0), (4, .imul, 0, 0), (5, .lshr, 0, 0), (6, .l2i, 0, 0), (7, .bipush 63, 0, 0), (9, .iand, 0, 0), (10, .ireturn, 0, 0)]
def am_M8 : AMe := (⟨"PebbleProofs$Board", "neighboursIn", "(JI)I"⟩, prog_2_method_9_code, 3, 2, (some .int), [], am_e8_0)
def am_e9_0 : List AEn := [(0, .aload_n 0, 0, 0), (1, .getfield 31, 0, 1), (4, .iload_n 1, 0, 0), (5, .invokestatic 65, 8, 2), (8, .ireturn, 0, 0)]
def am_M9 : AMe := (⟨"PebbleProofs$Board", "neighbours", "(I)I"⟩, prog_2_method_10_code, 2, 1, (some .int), [], am_e9_0)
def am_e10_0 : List AEn := [(0, .iconst 1, 0, 0), (1, .istore_n 3, 0, 0), (2, .iconst 1, 0, 0), (3, .istore 4, 0, 0), (5, .iload 4, 0, 0), (7, .aload_n 0, 0, 0), (8, .getfield 27, 0, 0), (11, .if_icmp .ge 45, 56, 0), (14, .iconst 0, 0, 0), (15, .istore 5, 0, 0), (17, .iload 5, 0, 0), (19, .aload_n 0, 0, 0), (20, .getfield 27, 0, 0), (23, .if_icmp .ge 27, 50, 0), (26, .iload_n 3, 0, 0), (27, .iload 5, 0, 0), (29, .ishr, 0, 0), (30, .iconst 1, 0, 0), (31, .iand, 0, 0), (32, .ifCond .eq 12, 44, 0), (35, .iload_n 3, 0, 0), (36, .lload_n 1, 0, 0), (37, .iload 5, 0, 0), (39, .invokestatic 65, 8, 2), (42, .ior, 0, 0), (43, .istore_n 3, 0, 0), (44, .iinc 5 1, 0, 0), (47, .goto (-30), 17, 0), (50, .iinc 4 1, 0, 0), (53, .goto (-48), 5, 0), (56, .iload_n 3, 0, 0), (57, .invokestatic 69, 253, 1), (60, .aload_n 0, 0, 0), (61, .getfield 27, 0, 0), (64, .if_icmp .ne 7, 71, 0), (67, .iconst 1, 0, 0), (68, .goto 4, 72, 0), (71, .iconst 0, 0, 0), (72, .ireturn, 0, 0)]
def am_M10 : AMe := (⟨"PebbleProofs$Board", "isConnectedBy", "(J)Z"⟩, prog_2_method_11_code, 6, 1, (some .boolean), [], am_e10_0)
def am_e11_0 : List AEn := [(0, .aload_n 0, 0, 0), (1, .aload_n 0, 0, 0), (2, .getfield 31, 0, 1), (5, .invokevirtual 74, 10, 2), (8, .ireturn, 0, 0)]
def am_M11 : AMe := (⟨"PebbleProofs$Board", "isConnected", "()Z"⟩, prog_2_method_12_code, 1, 0, (some .boolean), [], am_e11_0)
def am_e12_0 : List AEn := [(0, .aload_n 0, 0, 0), (1, .aload_n 0, 0, 0), (2, .getfield 31, 0, 1), (5, .iload_n 1, 0, 0), (6, .iload_n 2, 0, 0), (7, .invokestatic 53, 3, 2), (10, .ldc2_w 57, 18446744073709551615, 0), (13, .lxor, 0, 0), (14, .land, 0, 0), (15, .invokevirtual 74, 10, 2), (18, .ireturn, 0, 0)]
def am_M12 : AMe := (⟨"PebbleProofs$Board", "isConnectedWithout", "(II)Z"⟩, prog_2_method_13_code, 3, 2, (some .boolean), [], am_e12_0)
def am_e13_0 : List AEn := [(0, .iconst 0, 0, 0), (1, .istore_n 1, 0, 0), (2, .iload_n 1, 0, 0), (3, .aload_n 0, 0, 0), (4, .getfield 27, 0, 0), (7, .if_icmp .ge 14, 21, 0), (10, .aload_n 0, 0, 0), (11, .iload_n 1, 0, 0), (12, .invokevirtual 78, 14, 2), (15, .iinc 1 1, 0, 0), (18, .goto (-16), 2, 0), (21, .return_, 0, 0)]
def am_M13 : AMe := (⟨"PebbleProofs$Board", "measure", "()V"⟩, prog_2_method_14_code, 2, 0, none, [], am_e13_0)
def am_e14_0 : List AEn := [(0, .iconst 0, 0, 0), (1, .istore_n 2, 0, 0), (2, .iconst 1, 0, 0), (3, .iload_n 1, 0, 0), (4, .ishl, 0, 0), (5, .istore_n 3, 0, 0), (6, .iconst 0, 0, 0), (7, .istore 4, 0, 0), (9, .iload 4, 0, 0), (11, .aload_n 0, 0, 0), (12, .getfield 27, 0, 0), (15, .if_icmp .ge 75, 90, 0), (18, .iload_n 2, 0, 0), (19, .iload_n 3, 0, 0), (20, .ior, 0, 0), (21, .istore_n 2, 0, 0), (22, .iconst 0, 0, 0), (23, .istore 5, 0, 0), (25, .iconst 0, 0, 0), (26, .istore 6, 0, 0), (28, .iload 6, 0, 0), (30, .aload_n 0, 0, 0), (31, .getfield 27, 0, 0), (34, .if_icmp .ge 43, 77, 0), (37, .iload_n 3, 0, 0), (38, .iload 6, 0, 0), (40, .ishr, 0, 0), (41, .iconst 1, 0, 0), (42, .iand, 0, 0), (43, .ifCond .eq 28, 71, 0), (46, .aload_n 0, 0, 0), (47, .getfield 15, 0, 5), (50, .bipush 6, 0, 0), (52, .iload_n 1, 0, 0), (53, .imul, 0, 0), (54, .iload 6, 0, 0), (56, .iadd, 0, 0), (57, .iload 4, 0, 0), (59, .iastore, 0, 0), (60, .iload 5, 0, 0), (62, .aload_n 0, 0, 0), (63, .iload 6, 0, 0), (65, .invokevirtual 82, 9, 2), (68, .ior, 0, 0), (69, .istore 5, 0, 0), (71, .iinc 6 1, 0, 0), (74, .goto (-46), 28, 0), (77, .iload 5, 0, 0), (79, .iload_n 2, 0, 0), (80, .iconst (-1), 0, 0), (81, .ixor, 0, 0), (82, .iand, 0, 0), (83, .istore_n 3, 0, 0), (84, .iinc 4 1, 0, 0), (87, .goto (-78), 9, 0), (90, .return_, 0, 0)]
def am_M14 : AMe := (⟨"PebbleProofs$Board", "measureFrom", "(I)V"⟩, prog_2_method_15_code, 7, 1, none, [], am_e14_0)
def am_e15_0 : List AEn := [(0, .aload_n 0, 0, 0), (1, .getfield 15, 0, 5), (4, .bipush 6, 0, 0), (6, .iload_n 1, 0, 0), (7, .imul, 0, 0), (8, .iload_n 2, 0, 0), (9, .iadd, 0, 0), (10, .iaload, 0, 0), (11, .ireturn, 0, 0)]
def am_M15 : AMe := (⟨"PebbleProofs$Board", "apart", "(II)I"⟩, prog_2_method_16_code, 3, 2, (some .int), [], am_e15_0)
def am_e18_0 : List AEn := [(0, .iconst 0, 0, 0), (1, .istore_n 1, 0, 0), (2, .iconst 0, 0, 0), (3, .istore_n 2, 0, 0), (4, .iload_n 2, 0, 0), (5, .aload_n 0, 0, 0), (6, .getfield 27, 0, 0), (9, .if_icmp .ge 33, 42, 0), (12, .iconst 0, 0, 0), (13, .istore_n 3, 0, 0), (14, .iload_n 3, 0, 0), (15, .iload_n 2, 0, 0), (16, .if_icmp .ge 20, 36, 0), (19, .iload_n 1, 0, 0), (20, .aload_n 0, 0, 0), (21, .iload_n 2, 0, 0), (22, .iload_n 3, 0, 0), (23, .invokevirtual 85, 15, 3), (26, .invokestatic 97, 902, 2), (29, .istore_n 1, 0, 0), (30, .iinc 3 1, 0, 0), (33, .goto (-19), 14, 0), (36, .iinc 2 1, 0, 0), (39, .goto (-35), 4, 0), (42, .iload_n 1, 0, 0), (43, .ireturn, 0, 0)]
def am_M18 : AMe := (⟨"PebbleProofs$Board", "diameter", "()I"⟩, prog_2_method_19_code, 4, 0, (some .int), [], am_e18_0)
def am_e22_0 : List AEn := [(0, .iconst 0, 0, 0), (1, .istore_n 1, 0, 0), (2, .iconst 0, 0, 0), (3, .istore_n 2, 0, 0), (4, .iload_n 2, 0, 0), (5, .aload_n 0, 0, 0), (6, .getfield 27, 0, 0), (9, .if_icmp .ge 18, 27, 0), (12, .iload_n 1, 0, 0), (13, .aload_n 0, 0, 0), (14, .getfield 9, 0, 4), (17, .iload_n 2, 0, 0), (18, .iaload, 0, 0), (19, .iadd, 0, 0), (20, .istore_n 1, 0, 0), (21, .iinc 2 1, 0, 0), (24, .goto (-20), 4, 0), (27, .iload_n 1, 0, 0), (28, .ireturn, 0, 0)]
def am_M22 : AMe := (⟨"PebbleProofs$Board", "allPebbles", "()I"⟩, prog_2_method_23_code, 3, 0, (some .int), [], am_e22_0)
def am_e23_0 : List AEn := [(0, .aload_n 0, 0, 0), (1, .getfield 9, 0, 4), (4, .iload_n 1, 0, 0), (5, .iaload, 0, 0), (6, .iconst 2, 0, 0), (7, .if_icmp .lt 28, 35, 0), (10, .aload_n 0, 0, 0), (11, .iload_n 1, 0, 0), (12, .iload_n 2, 0, 0), (13, .invokevirtual 106, 6, 3), (16, .ifCond .eq 19, 35, 0), (19, .aload_n 0, 0, 0), (20, .getfield 9, 0, 4), (23, .iload_n 2, 0, 0), (24, .iaload, 0, 0), (25, .sipush 999, 0, 0), (28, .if_icmp .ge 7, 35, 0), (31, .iconst 1, 0, 0), (32, .goto 4, 36, 0), (35, .iconst 0, 0, 0), (36, .ireturn, 0, 0)]
def am_M23 : AMe := (⟨"PebbleProofs$Board", "allowsMove", "(II)Z"⟩, prog_2_method_24_code, 3, 2, (some .boolean), [], am_e23_0)
def am_e24_0 : List AEn := [(0, .aload_n 0, 0, 0), (1, .getfield 9, 0, 4), (4, .iload_n 1, 0, 0), (5, .dup2, 0, 0), (6, .iaload, 0, 0), (7, .iconst 2, 0, 0), (8, .isub, 0, 0), (9, .iastore, 0, 0), (10, .aload_n 0, 0, 0), (11, .getfield 9, 0, 4), (14, .iload_n 2, 0, 0), (15, .dup2, 0, 0), (16, .iaload, 0, 0), (17, .iconst 1, 0, 0), (18, .iadd, 0, 0), (19, .iastore, 0, 0), (20, .aload_n 0, 0, 0), (21, .dup, 0, 0), (22, .getfield 35, 0, 2), (25, .iconst 1, 0, 0), (26, .iadd, 0, 0), (27, .putfield 35, 0, 2), (30, .return_, 0, 0)]
def am_M24 : AMe := (⟨"PebbleProofs$Board", "makeMove", "(II)V"⟩, prog_2_method_25_code, 3, 2, none, [], am_e24_0)
def am_e25_0 : List AEn := [(0, .aload_n 0, 0, 0), (1, .getfield 38, 0, 3), (4, .istore_n 2, 0, 0), (5, .aload_n 0, 0, 0), (6, .getfield 18, 0, 6), (9, .iload_n 2, 0, 0), (10, .iload_n 1, 0, 0), (11, .iastore, 0, 0), (12, .iconst 0, 0, 0), (13, .istore_n 3, 0, 0), (14, .iload_n 3, 0, 0), (15, .bipush 6, 0, 0), (17, .if_icmp .ge 17, 34, 0), (20, .aload_n 0, 0, 0), (21, .iload_n 2, 0, 0), (22, .iload_n 3, 0, 0), (23, .iconst (-1), 0, 0), (24, .iconst 0, 0, 0), (25, .invokevirtual 110, 27, 5), (28, .iinc 3 1, 0, 0), (31, .goto (-17), 14, 0), (34, .aload_n 0, 0, 0), (35, .dup, 0, 0), (36, .getfield 38, 0, 3), (39, .iconst 1, 0, 0), (40, .iadd, 0, 0), (41, .putfield 38, 0, 3), (44, .return_, 0, 0)]
def am_M25 : AMe := (⟨"PebbleProofs$Board", "openStrategy", "(I)V"⟩, prog_2_method_26_code, 4, 1, none, [], am_e25_0)
def am_e26_0 : List AEn := [(0, .iload_n 1, 0, 0), (1, .istore_n 2, 0, 0), (2, .iload_n 2, 0, 0), (3, .iconst 1, 0, 0), (4, .iadd, 0, 0), (5, .aload_n 0, 0, 0), (6, .getfield 38, 0, 3), (9, .if_icmp .ge 61, 70, 0), (12, .aload_n 0, 0, 0), (13, .getfield 18, 0, 6), (16, .iload_n 2, 0, 0), (17, .aload_n 0, 0, 0), (18, .getfield 18, 0, 6), (21, .iload_n 2, 0, 0), (22, .iconst 1, 0, 0), (23, .iadd, 0, 0), (24, .iaload, 0, 0), (25, .iastore, 0, 0), (26, .iconst 0, 0, 0), (27, .istore_n 3, 0, 0), (28, .iload_n 3, 0, 0), (29, .aload_n 0, 0, 0), (30, .getfield 27, 0, 0), (33, .if_icmp .ge 31, 64, 0), (36, .aload_n 0, 0, 0), (37, .iload_n 2, 0, 0), (38, .iload_n 3, 0, 0), (39, .aload_n 0, 0, 0), (40, .iload_n 2, 0, 0), (41, .iconst 1, 0, 0), (42, .iadd, 0, 0), (43, .iload_n 3, 0, 0), (44, .invokevirtual 114, 29, 3), (47, .aload_n 0, 0, 0), (48, .iload_n 2, 0, 0), (49, .iconst 1, 0, 0), (50, .iadd, 0, 0), (51, .iload_n 3, 0, 0), (52, .invokevirtual 117, 28, 3), (55, .invokevirtual 110, 27, 5), (58, .iinc 3 1, 0, 0), (61, .goto (-33), 28, 0), (64, .iinc 2 1, 0, 0), (67, .goto (-65), 2, 0), (70, .aload_n 0, 0, 0), (71, .dup, 0, 0), (72, .getfield 38, 0, 3), (75, .iconst 1, 0, 0), (76, .isub, 0, 0), (77, .putfield 38, 0, 3), (80, .return_, 0, 0)]
def am_M26 : AMe := (⟨"PebbleProofs$Board", "closeStrategy", "(I)V"⟩, prog_2_method_27_code, 4, 1, none, [], am_e26_0)
def am_e27_0 : List AEn := [(0, .aload_n 0, 0, 0), (1, .getfield 21, 0, 7), (4, .bipush 6, 0, 0), (6, .iload_n 1, 0, 0), (7, .imul, 0, 0), (8, .iload_n 2, 0, 0), (9, .iadd, 0, 0), (10, .iload 4, 0, 0), (12, .iastore, 0, 0), (13, .aload_n 0, 0, 0), (14, .getfield 24, 0, 8), (17, .bipush 6, 0, 0), (19, .iload_n 1, 0, 0), (20, .imul, 0, 0), (21, .iload_n 2, 0, 0), (22, .iadd, 0, 0), (23, .iload_n 3, 0, 0), (24, .iastore, 0, 0), (25, .return_, 0, 0)]
def am_M27 : AMe := (⟨"PebbleProofs$Board", "setWeight", "(IIII)V"⟩, prog_2_method_28_code, 5, 4, none, [], am_e27_0)
def am_e28_0 : List AEn := [(0, .aload_n 0, 0, 0), (1, .getfield 21, 0, 7), (4, .bipush 6, 0, 0), (6, .iload_n 1, 0, 0), (7, .imul, 0, 0), (8, .iload_n 2, 0, 0), (9, .iadd, 0, 0), (10, .iaload, 0, 0), (11, .ireturn, 0, 0)]
def am_M28 : AMe := (⟨"PebbleProofs$Board", "weightOf", "(II)I"⟩, prog_2_method_29_code, 3, 2, (some .int), [], am_e28_0)
def am_e29_0 : List AEn := [(0, .aload_n 0, 0, 0), (1, .getfield 24, 0, 8), (4, .bipush 6, 0, 0), (6, .iload_n 1, 0, 0), (7, .imul, 0, 0), (8, .iload_n 2, 0, 0), (9, .iadd, 0, 0), (10, .iaload, 0, 0), (11, .ireturn, 0, 0)]
def am_M29 : AMe := (⟨"PebbleProofs$Board", "parentOf", "(II)I"⟩, prog_2_method_30_code, 3, 2, (some .int), [], am_e29_0)
def am_e36_0 : List AEn := [(0, .aload_n 0, 0, 0), (1, .invokespecial 3, 901, 1), (4, .aload_n 0, 0, 0), (5, .bipush 100, 0, 0), (7, .newarray .int, 0, 0), (9, .putfield 9, 1, 7), (12, .aload_n 0, 0, 0), (13, .bipush 6, 0, 0), (15, .newarray .int, 0, 0), (17, .putfield 15, 1, 8), (20, .aload_n 0, 0, 0), (21, .bipush 6, 0, 0), (23, .newarray .int, 0, 0), (25, .putfield 18, 1, 9), (28, .aload_n 0, 0, 0), (29, .bipush 6, 0, 0), (31, .newarray .int, 0, 0), (33, .putfield 21, 1, 10), (36, .aload_n 0, 0, 0), (37, .sipush 1024, 0, 0), (40, .newarray .int, 0, 0), (42, .putfield 24, 1, 11), (45, .aload_n 0, 0, 0), (46, .iload_n 1, 0, 0), (47, .putfield 27, 1, 0), (50, .return_, 0, 0)]
def am_M36 : AMe := (⟨"PebbleProofs$FailingPiles", "<init>", "(I)V"⟩, prog_3_method_1_code, 2, 1, none, [], am_e36_0)
def am_e37_0 : List AEn := [(0, .aload_n 0, 0, 0), (1, .getfield 31, 1, 1), (4, .ifCond .eq 30, 34, 0), (7, .aload_n 0, 0, 0), (8, .getfield 35, 1, 2), (11, .aload_n 1, 0, 0), (12, .getfield 38, 0, 0), (15, .if_icmp .ne 19, 34, 0), (18, .aload_n 0, 0, 0), (19, .getfield 41, 1, 3), (22, .aload_n 1, 0, 0), (23, .getfield 45, 0, 1), (26, .lcmp, 0, 0), (27, .ifCond .ne 7, 34, 0), (30, .iconst 1, 0, 0), (31, .goto 4, 35, 0), (34, .iconst 0, 0, 0), (35, .ireturn, 0, 0)]
def am_M37 : AMe := (⟨"PebbleProofs$FailingPiles", "areOf", "(LPebbleProofs$Board;)Z"⟩, prog_3_method_2_code, 2, 1, (some .boolean), [], am_e37_0)
def am_e38_0 : List AEn := [(0, .aload_n 0, 0, 0), (1, .iconst 1, 0, 0), (2, .putfield 31, 1, 1), (5, .aload_n 0, 0, 0), (6, .aload_n 1, 0, 0), (7, .getfield 38, 0, 0), (10, .putfield 35, 1, 2), (13, .aload_n 0, 0, 0), (14, .aload_n 1, 0, 0), (15, .getfield 45, 0, 1), (18, .putfield 41, 1, 3), (21, .aload_n 0, 0, 0), (22, .getfield 24, 1, 11), (25, .iconst 0, 0, 0), (26, .invokestatic 46, 261, 2), (29, .aload_n 0, 0, 0), (30, .getfield 9, 1, 7), (33, .iconst 0, 0, 0), (34, .invokestatic 46, 261, 2), (37, .iconst 0, 0, 0), (38, .istore_n 2, 0, 0), (39, .aload_n 0, 0, 0), (40, .getfield 35, 1, 2), (43, .iconst 1, 0, 0), (44, .isub, 0, 0), (45, .istore_n 3, 0, 0), (46, .iload_n 3, 0, 0), (47, .ifCond .lt 55, 102, 0), (50, .aload_n 1, 0, 0), (51, .aload_n 0, 0, 0), (52, .getfield 27, 1, 0), (55, .iload_n 3, 0, 0), (56, .invokevirtual 52, 15, 3), (59, .istore 4, 0, 0), (61, .aload_n 0, 0, 0), (62, .getfield 15, 1, 8), (65, .iload_n 3, 0, 0), (66, .iconst 1, 0, 0), (67, .iload 4, 0, 0), (69, .ishl, 0, 0), (70, .iconst 1, 0, 0), (71, .isub, 0, 0), (72, .iastore, 0, 0), (73, .aload_n 0, 0, 0), (74, .getfield 18, 1, 9), (77, .iload_n 3, 0, 0), (78, .iload_n 2, 0, 0), (79, .iastore, 0, 0), (80, .aload_n 0, 0, 0), (81, .getfield 21, 1, 10), (84, .iload_n 3, 0, 0), (85, .aload_n 1, 0, 0), (86, .iload_n 3, 0, 0), (87, .invokevirtual 56, 9, 2), (90, .iastore, 0, 0), (91, .iload_n 2, 0, 0), (92, .iload 4, 0, 0), (94, .iadd, 0, 0), (95, .istore_n 2, 0, 0), (96, .iinc 3 (-1), 0, 0)]
def am_e38_1 : List AEn := [(99, .goto (-53), 46, 0), (102, .return_, 0, 0)]
def am_M38 : AMe := (⟨"PebbleProofs$FailingPiles", "clear", "(LPebbleProofs$Board;)V"⟩, prog_3_method_3_code, 5, 1, none, [], am_e38_0 ++ (am_e38_1))
def am_e39_0 : List AEn := [(0, .aload_n 0, 0, 0), (1, .getfield 24, 1, 11), (4, .iload_n 1, 0, 0), (5, .iconst 5, 0, 0), (6, .ishr, 0, 0), (7, .sipush 1023, 0, 0), (10, .iand, 0, 0), (11, .dup2, 0, 0), (12, .iaload, 0, 0), (13, .iconst 1, 0, 0), (14, .iload_n 1, 0, 0), (15, .bipush 31, 0, 0), (17, .iand, 0, 0), (18, .ishl, 0, 0), (19, .ior, 0, 0), (20, .iastore, 0, 0), (21, .return_, 0, 0)]
def am_M39 : AMe := (⟨"PebbleProofs$FailingPiles", "mark", "(I)V"⟩, prog_3_method_4_code, 2, 1, none, [], am_e39_0)
def am_e40_0 : List AEn := [(0, .aload_n 0, 0, 0), (1, .getfield 24, 1, 11), (4, .iload_n 1, 0, 0), (5, .iconst 5, 0, 0), (6, .ishr, 0, 0), (7, .sipush 1023, 0, 0), (10, .iand, 0, 0), (11, .iaload, 0, 0), (12, .iload_n 1, 0, 0), (13, .bipush 31, 0, 0), (15, .iand, 0, 0), (16, .ishr, 0, 0), (17, .iconst 1, 0, 0), (18, .iand, 0, 0), (19, .ifCond .eq 7, 26, 0), (22, .iconst 1, 0, 0), (23, .goto 4, 27, 0), (26, .iconst 0, 0, 0), (27, .ireturn, 0, 0)]
def am_M40 : AMe := (⟨"PebbleProofs$FailingPiles", "isMarked", "(I)Z"⟩, prog_3_method_5_code, 2, 1, (some .boolean), [], am_e40_0)
def am_e41_0 : List AEn := [(0, .iload_n 1, 0, 0), (1, .aload_n 0, 0, 0), (2, .getfield 18, 1, 9), (5, .iload_n 2, 0, 0), (6, .iaload, 0, 0), (7, .ishr, 0, 0), (8, .aload_n 0, 0, 0), (9, .getfield 15, 1, 8), (12, .iload_n 2, 0, 0), (13, .iaload, 0, 0), (14, .iand, 0, 0), (15, .ireturn, 0, 0)]
def am_M41 : AMe := (⟨"PebbleProofs$FailingPiles", "pebblesOn", "(II)I"⟩, prog_3_method_6_code, 3, 2, (some .int), [], am_e41_0)
def am_e42_0 : List AEn := [(0, .iload_n 1, 0, 0), (1, .iconst (-1), 0, 0), (2, .ixor, 0, 0), (3, .aload_n 0, 0, 0), (4, .getfield 18, 1, 9), (7, .iload_n 2, 0, 0), (8, .iaload, 0, 0), (9, .ishr, 0, 0), (10, .aload_n 0, 0, 0), (11, .getfield 15, 1, 8), (14, .iload_n 2, 0, 0), (15, .iaload, 0, 0), (16, .iand, 0, 0), (17, .ifCond .eq 7, 24, 0), (20, .iconst 1, 0, 0), (21, .goto 4, 25, 0), (24, .iconst 0, 0, 0), (25, .ireturn, 0, 0)]
def am_M42 : AMe := (⟨"PebbleProofs$FailingPiles", "hasRoom", "(II)Z"⟩, prog_3_method_7_code, 3, 2, (some .boolean), [], am_e42_0)
def am_e43_0 : List AEn := [(0, .iconst 0, 0, 0), (1, .istore_n 2, 0, 0), (2, .iconst 0, 0, 0), (3, .istore_n 3, 0, 0), (4, .iload_n 3, 0, 0), (5, .aload_n 0, 0, 0), (6, .getfield 35, 1, 2), (9, .if_icmp .ge 36, 45, 0), (12, .aload_n 1, 0, 0), (13, .iload_n 3, 0, 0), (14, .iaload, 0, 0), (15, .aload_n 0, 0, 0), (16, .getfield 15, 1, 8), (19, .iload_n 3, 0, 0), (20, .iaload, 0, 0), (21, .if_icmp .le 5, 26, 0), (24, .iconst 0, 0, 0), (25, .ireturn, 0, 0), (26, .iload_n 2, 0, 0), (27, .aload_n 1, 0, 0), (28, .iload_n 3, 0, 0), (29, .iaload, 0, 0), (30, .aload_n 0, 0, 0), (31, .getfield 18, 1, 9), (34, .iload_n 3, 0, 0), (35, .iaload, 0, 0), (36, .ishl, 0, 0), (37, .ior, 0, 0), (38, .istore_n 2, 0, 0), (39, .iinc 3 1, 0, 0), (42, .goto (-38), 4, 0), (45, .aload_n 0, 0, 0), (46, .iload_n 2, 0, 0), (47, .invokevirtual 60, 40, 2), (50, .ireturn, 0, 0)]
def am_M43 : AMe := (⟨"PebbleProofs$FailingPiles", "holds", "([I)Z"⟩, prog_3_method_8_code, 4, 1, (some .boolean), [], am_e43_0)
def am_e44_0 : List AEn := [(0, .aload_n 0, 0, 0), (1, .aload_n 1, 0, 0), (2, .invokevirtual 64, 38, 2), (5, .aload_n 2, 0, 0), (6, .iconst 0, 0, 0), (7, .iconst 0, 0, 0), (8, .iastore, 0, 0), (9, .aload_n 0, 0, 0), (10, .iconst 0, 0, 0), (11, .invokevirtual 68, 39, 2), (14, .iconst 0, 0, 0), (15, .istore_n 3, 0, 0), (16, .iconst 1, 0, 0), (17, .istore 4, 0, 0), (19, .iconst 0, 0, 0), (20, .istore 5, 0, 0), (22, .iload 5, 0, 0), (24, .bipush 99, 0, 0), (26, .if_icmp .gt 66, 92, 0), (29, .iload_n 3, 0, 0), (30, .iload 4, 0, 0), (32, .if_icmp .ge 60, 92, 0), (35, .aload_n 0, 0, 0), (36, .getfield 9, 1, 7), (39, .iload 5, 0, 0), (41, .iload 4, 0, 0), (43, .iload_n 3, 0, 0), (44, .isub, 0, 0), (45, .iastore, 0, 0), (46, .aload_n 0, 0, 0), (47, .iload 5, 0, 0), (49, .iconst 1, 0, 0), (50, .iadd, 0, 0), (51, .putfield 72, 1, 4), (54, .aload_n 0, 0, 0), (55, .iload 4, 0, 0), (57, .iload_n 3, 0, 0), (58, .isub, 0, 0), (59, .putfield 75, 1, 5), (62, .aload_n 0, 0, 0), (63, .aload_n 2, 0, 0), (64, .iload_n 3, 0, 0), (65, .iaload, 0, 0), (66, .putfield 78, 1, 6), (69, .aload_n 0, 0, 0), (70, .aload_n 2, 0, 0), (71, .iload_n 3, 0, 0), (72, .iload 4, 0, 0), (74, .invokevirtual 81, 45, 4), (77, .istore 6, 0, 0), (79, .iload 4, 0, 0), (81, .istore_n 3, 0, 0), (82, .iload 6, 0, 0), (84, .istore 4, 0, 0), (86, .iinc 5 1, 0, 0), (89, .goto (-67), 22, 0), (92, .return_, 0, 0)]
def am_M44 : AMe := (⟨"PebbleProofs$FailingPiles", "collect", "(LPebbleProofs$Board;[I)V"⟩, prog_3_method_9_code, 7, 2, none, [], am_e44_0)
def am_e45_0 : List AEn := [(0, .iload_n 3, 0, 0), (1, .istore 4, 0, 0), (3, .iload_n 2, 0, 0), (4, .istore 5, 0, 0), (6, .iload 5, 0, 0), (8, .iload_n 3, 0, 0), (9, .if_icmp .ge 104, 113, 0), (12, .aload_n 1, 0, 0), (13, .iload 5, 0, 0), (15, .iaload, 0, 0), (16, .istore 6, 0, 0), (18, .aload_n 0, 0, 0), (19, .getfield 35, 1, 2), (22, .iconst 1, 0, 0), (23, .isub, 0, 0), (24, .istore 7, 0, 0), (26, .iload 7, 0, 0), (28, .ifCond .lt 79, 107, 0), (31, .iload 6, 0, 0), (33, .iconst 1, 0, 0), (34, .aload_n 0, 0, 0), (35, .getfield 18, 1, 9), (38, .iload 7, 0, 0), (40, .iaload, 0, 0), (41, .ishl, 0, 0), (42, .iadd, 0, 0), (43, .istore 8, 0, 0), (45, .aload_n 0, 0, 0), (46, .iload 6, 0, 0), (48, .iload 7, 0, 0), (50, .invokevirtual 85, 42, 3), (53, .ifCond .eq 34, 87, 0), (56, .iload 4, 0, 0), (58, .aload_n 1, 0, 0), (59, .arraylength, 0, 0), (60, .if_icmp .ge 27, 87, 0), (63, .aload_n 0, 0, 0), (64, .iload 8, 0, 0), (66, .invokevirtual 89, 46, 2), (69, .ifCond .eq 18, 87, 0), (72, .aload_n 0, 0, 0), (73, .iload 8, 0, 0), (75, .invokevirtual 68, 39, 2), (78, .aload_n 1, 0, 0), (79, .iload 4, 0, 0), (81, .iload 8, 0, 0), (83, .iastore, 0, 0), (84, .iinc 4 1, 0, 0), (87, .aload_n 0, 0, 0), (88, .iload 6, 0, 0), (90, .iload 7, 0, 0), (92, .invokevirtual 92, 41, 3), (95, .ifCond .le 6, 101, 0), (98, .goto 9, 107, 0), (101, .iinc 7 (-1), 0, 0), (104, .goto (-78), 26, 0), (107, .iinc 5 1, 0, 0), (110, .goto (-104), 6, 0), (113, .iload 4, 0, 0), (115, .ireturn, 0, 0)]
def am_M45 : AMe := (⟨"PebbleProofs$FailingPiles", "extend", "([III)I"⟩, prog_3_method_10_code, 9, 3, (some .int), [], am_e45_0)
def am_e46_0 : List AEn := [(0, .iconst 0, 0, 0), (1, .istore_n 2, 0, 0), (2, .iload_n 2, 0, 0), (3, .aload_n 0, 0, 0), (4, .getfield 35, 1, 2), (7, .if_icmp .ge 30, 37, 0), (10, .aload_n 0, 0, 0), (11, .iload_n 1, 0, 0), (12, .iload_n 2, 0, 0), (13, .invokevirtual 92, 41, 3), (16, .iconst 2, 0, 0), (17, .if_icmp .lt 14, 31, 0), (20, .aload_n 0, 0, 0), (21, .iload_n 2, 0, 0), (22, .iload_n 1, 0, 0), (23, .invokevirtual 95, 47, 3), (26, .ifCond .ne 5, 31, 0), (29, .iconst 0, 0, 0), (30, .ireturn, 0, 0), (31, .iinc 2 1, 0, 0), (34, .goto (-32), 2, 0), (37, .iconst 1, 0, 0), (38, .ireturn, 0, 0)]
def am_M46 : AMe := (⟨"PebbleProofs$FailingPiles", "fails", "(I)Z"⟩, prog_3_method_11_code, 3, 1, (some .boolean), [], am_e46_0)
def am_e47_0 : List AEn := [(0, .iload_n 2, 0, 0), (1, .iconst 2, 0, 0), (2, .aload_n 0, 0, 0), (3, .getfield 18, 1, 9), (6, .iload_n 1, 0, 0), (7, .iaload, 0, 0), (8, .ishl, 0, 0), (9, .isub, 0, 0), (10, .istore_n 3, 0, 0), (11, .iconst 0, 0, 0), (12, .istore 4, 0, 0), (14, .iload 4, 0, 0), (16, .aload_n 0, 0, 0), (17, .getfield 35, 1, 2), (20, .if_icmp .ge 53, 73, 0), (23, .aload_n 0, 0, 0), (24, .getfield 21, 1, 10), (27, .iload_n 1, 0, 0), (28, .iaload, 0, 0), (29, .iload 4, 0, 0), (31, .ishr, 0, 0), (32, .iconst 1, 0, 0), (33, .iand, 0, 0), (34, .ifCond .eq 33, 67, 0), (37, .aload_n 0, 0, 0), (38, .iload_n 2, 0, 0), (39, .iload 4, 0, 0), (41, .invokevirtual 85, 42, 3), (44, .ifCond .eq 21, 65, 0), (47, .aload_n 0, 0, 0), (48, .iload_n 3, 0, 0), (49, .iconst 1, 0, 0), (50, .aload_n 0, 0, 0), (51, .getfield 18, 1, 9), (54, .iload 4, 0, 0), (56, .iaload, 0, 0), (57, .ishl, 0, 0), (58, .iadd, 0, 0), (59, .invokevirtual 60, 40, 2), (62, .ifCond .ne 5, 67, 0), (65, .iconst 0, 0, 0), (66, .ireturn, 0, 0), (67, .iinc 4 1, 0, 0), (70, .goto (-56), 14, 0), (73, .iconst 1, 0, 0), (74, .ireturn, 0, 0)]
def am_M47 : AMe := (⟨"PebbleProofs$FailingPiles", "failsAfterMoveFrom", "(II)Z"⟩, prog_3_method_12_code, 5, 2, (some .boolean), [], am_e47_0)
def am_e48_0 : List AEn := [(0, .aload_n 0, 0, 0), (1, .invokespecial 3, 901, 1), (4, .aload_n 0, 0, 0), (5, .bipush 10, 0, 0), (7, .anewarray 9, 3, 0), (10, .putfield 11, 2, 0), (13, .return_, 0, 0)]
def am_M48 : AMe := (⟨"PebbleProofs$History", "<init>", "()V"⟩, prog_4_method_1_code, 1, 0, none, [], am_e48_0)
def am_e49_0 : List AEn := [(0, .aload_n 0, 0, 0), (1, .iconst 0, 0, 0), (2, .putfield 17, 2, 2), (5, .return_, 0, 0)]
def am_M49 : AMe := (⟨"PebbleProofs$History", "forget", "()V"⟩, prog_4_method_2_code, 1, 0, none, [], am_e49_0)
def am_e50_0 : List AEn := [(0, .aload_n 0, 0, 0), (1, .getfield 17, 2, 2), (4, .bipush 10, 0, 0), (6, .if_icmp .ne 26, 32, 0), (9, .aload_n 0, 0, 0), (10, .aload_n 0, 0, 0), (11, .getfield 21, 2, 1), (14, .iconst 1, 0, 0), (15, .iadd, 0, 0), (16, .bipush 10, 0, 0), (18, .irem, 0, 0), (19, .putfield 21, 2, 1), (22, .aload_n 0, 0, 0), (23, .dup, 0, 0), (24, .getfield 17, 2, 2), (27, .iconst 1, 0, 0), (28, .isub, 0, 0), (29, .putfield 17, 2, 2), (32, .aload_n 0, 0, 0), (33, .getfield 21, 2, 1), (36, .aload_n 0, 0, 0), (37, .getfield 17, 2, 2), (40, .iadd, 0, 0), (41, .bipush 10, 0, 0), (43, .irem, 0, 0), (44, .istore_n 2, 0, 0), (45, .aload_n 0, 0, 0), (46, .getfield 11, 2, 0), (49, .iload_n 2, 0, 0), (50, .aaload, 0, 0), (51, .astore_n 3, 0, 0), (52, .aload_n 3, 0, 0), (53, .ifnonnull 18, 71, 0), (56, .new 9, 0, 0), (59, .dup, 0, 0), (60, .invokespecial 24, 0, 1), (63, .astore_n 3, 0, 0), (64, .aload_n 0, 0, 0), (65, .getfield 11, 2, 0), (68, .iload_n 2, 0, 0), (69, .aload_n 3, 0, 0), (70, .aastore, 0, 0), (71, .aload_n 3, 0, 0), (72, .aload_n 1, 0, 0), (73, .invokevirtual 25, 2, 2), (76, .aload_n 0, 0, 0), (77, .dup, 0, 0), (78, .getfield 17, 2, 2), (81, .iconst 1, 0, 0), (82, .iadd, 0, 0), (83, .putfield 17, 2, 2), (86, .return_, 0, 0)]
def am_M50 : AMe := (⟨"PebbleProofs$History", "keep", "(LPebbleProofs$Board;)V"⟩, prog_4_method_3_code, 4, 1, none, [], am_e50_0)
def am_e51_0 : List AEn := [(0, .aload_n 0, 0, 0), (1, .dup, 0, 0), (2, .getfield 17, 2, 2), (5, .iconst 1, 0, 0), (6, .isub, 0, 0), (7, .putfield 17, 2, 2), (10, .aload_n 0, 0, 0), (11, .getfield 11, 2, 0), (14, .aload_n 0, 0, 0), (15, .getfield 21, 2, 1), (18, .aload_n 0, 0, 0), (19, .getfield 17, 2, 2), (22, .iadd, 0, 0), (23, .bipush 10, 0, 0), (25, .irem, 0, 0), (26, .aaload, 0, 0), (27, .astore_n 2, 0, 0), (28, .aload_n 2, 0, 0), (29, .ifnull 8, 37, 0), (32, .aload_n 1, 0, 0), (33, .aload_n 2, 0, 0), (34, .invokevirtual 25, 2, 2), (37, .return_, 0, 0)]
def am_M51 : AMe := (⟨"PebbleProofs$History", "bringBack", "(LPebbleProofs$Board;)V"⟩, prog_4_method_4_code, 3, 1, none, [], am_e51_0)
def am_e52_0 : List AEn := [(0, .aload_n 0, 0, 0), (1, .invokespecial 3, 901, 1), (4, .aload_n 0, 0, 0), (5, .bipush 6, 0, 0), (7, .newarray .int, 0, 0), (9, .putfield 9, 3, 6), (12, .aload_n 0, 0, 0), (13, .sipush 8192, 0, 0), (16, .newarray .int, 0, 0), (18, .putfield 15, 3, 7), (21, .aload_n 0, 0, 0), (22, .sipush 16384, 0, 0), (25, .newarray .int, 0, 0), (27, .putfield 18, 3, 8), (30, .return_, 0, 0)]
def am_M52 : AMe := (⟨"PebbleProofs$Outlook", "<init>", "()V"⟩, prog_5_method_1_code, 1, 0, none, [], am_e52_0)
def am_e62_0 : List AEn := [(0, .aload_n 0, 0, 0), (1, .invokespecial 3, 901, 1), (4, .aload_n 0, 0, 0), (5, .sipush 400, 0, 0), (8, .newarray .int, 0, 0), (10, .putfield 9, 4, 0), (13, .aload_n 0, 0, 0), (14, .new 15, 0, 0), (17, .dup, 0, 0), (18, .invokespecial 17, 0, 1), (21, .putfield 18, 4, 2), (24, .return_, 0, 0)]
def am_M62 : AMe := (⟨"PebbleProofs$SetupText", "<init>", "()V"⟩, prog_6_method_1_code, 1, 0, none, [], am_e62_0)
def am_e63_0 : List AEn := [(0, .iconst 0, 0, 0), (1, .istore_n 1, 0, 0), (2, .bipush 24, 0, 0), (4, .istore_n 2, 0, 0), (5, .iload_n 2, 0, 0), (6, .ifCond .lt 22, 28, 0), (9, .iload_n 0, 0, 0), (10, .iload_n 2, 0, 0), (11, .ishr, 0, 0), (12, .sipush 255, 0, 0), (15, .iand, 0, 0), (16, .ifCond .eq 6, 22, 0), (19, .iinc 1 1, 0, 0), (22, .iinc 2 (-8), 0, 0), (25, .goto (-20), 5, 0), (28, .iload_n 1, 0, 0), (29, .ireturn, 0, 0)]
def am_M63 : AMe := (⟨"PebbleProofs$SetupText", "bytesIn", "(I)I"⟩, prog_6_method_2_code, 3, 1, (some .int), [], am_e63_0)
def am_e64_0 : List AEn := [(0, .bipush 24, 0, 0), (2, .istore_n 2, 0, 0), (3, .iload_n 2, 0, 0), (4, .ifCond .lt 51, 55, 0), (7, .iload_n 1, 0, 0), (8, .iload_n 2, 0, 0), (9, .ishr, 0, 0), (10, .sipush 255, 0, 0), (13, .iand, 0, 0), (14, .istore_n 3, 0, 0), (15, .iload_n 3, 0, 0), (16, .ifCond .eq 33, 49, 0), (19, .aload_n 0, 0, 0), (20, .getfield 22, 4, 1), (23, .sipush 400, 0, 0), (26, .if_icmp .ge 23, 49, 0), (29, .aload_n 0, 0, 0), (30, .getfield 9, 4, 0), (33, .aload_n 0, 0, 0), (34, .getfield 22, 4, 1), (37, .iload_n 3, 0, 0), (38, .iastore, 0, 0), (39, .aload_n 0, 0, 0), (40, .dup, 0, 0), (41, .getfield 22, 4, 1), (44, .iconst 1, 0, 0), (45, .iadd, 0, 0), (46, .putfield 22, 4, 1), (49, .iinc 2 (-8), 0, 0), (52, .goto (-49), 3, 0), (55, .return_, 0, 0)]
def am_M64 : AMe := (⟨"PebbleProofs$SetupText", "addBytes", "(I)V"⟩, prog_6_method_3_code, 4, 1, none, [], am_e64_0)
def am_e65_0 : List AEn := [(0, .aload_n 0, 0, 0), (1, .getfield 26, 4, 4), (4, .istore_n 3, 0, 0), (5, .iload_n 3, 0, 0), (6, .aload_n 0, 0, 0), (7, .getfield 22, 4, 1), (10, .if_icmp .ge 29, 39, 0), (13, .aload_n 0, 0, 0), (14, .getfield 9, 4, 0), (17, .iload_n 3, 0, 0), (18, .iaload, 0, 0), (19, .iload_n 1, 0, 0), (20, .if_icmp .lt 19, 39, 0), (23, .aload_n 0, 0, 0), (24, .getfield 9, 4, 0), (27, .iload_n 3, 0, 0), (28, .iaload, 0, 0), (29, .iload_n 2, 0, 0), (30, .if_icmp .gt 9, 39, 0), (33, .iinc 3 1, 0, 0), (36, .goto (-31), 5, 0), (39, .iload_n 3, 0, 0), (40, .ireturn, 0, 0)]
def am_M65 : AMe := (⟨"PebbleProofs$SetupText", "endOfRun", "(II)I"⟩, prog_6_method_4_code, 4, 2, (some .int), [], am_e65_0)
def am_e66_0 : List AEn := [(0, .aload_n 0, 0, 0), (1, .aload_n 0, 0, 0), (2, .getfield 29, 4, 5), (5, .putfield 26, 4, 4), (8, .aload_n 0, 0, 0), (9, .aload_n 0, 0, 0), (10, .bipush 32, 0, 0), (12, .bipush 32, 0, 0), (14, .invokevirtual 32, 65, 3), (17, .putfield 26, 4, 4), (20, .aload_n 0, 0, 0), (21, .bipush 97, 0, 0), (23, .bipush 122, 0, 0), (25, .invokevirtual 32, 65, 3), (28, .istore_n 1, 0, 0), (29, .aload_n 0, 0, 0), (30, .bipush 48, 0, 0), (32, .bipush 57, 0, 0), (34, .invokevirtual 32, 65, 3), (37, .istore_n 2, 0, 0), (38, .aload_n 0, 0, 0), (39, .iload_n 1, 0, 0), (40, .iload_n 2, 0, 0), (41, .invokestatic 36, 902, 2), (44, .putfield 29, 4, 5), (47, .aload_n 0, 0, 0), (48, .getfield 26, 4, 4), (51, .aload_n 0, 0, 0), (52, .getfield 22, 4, 1), (55, .if_icmp .lt 11, 66, 0), (58, .aload_n 0, 0, 0), (59, .iconst 0, 0, 0), (60, .putfield 41, 4, 3), (63, .goto 71, 134, 0), (66, .iload_n 1, 0, 0), (67, .aload_n 0, 0, 0), (68, .getfield 26, 4, 4), (71, .if_icmp .le 11, 82, 0), (74, .aload_n 0, 0, 0), (75, .iconst 1, 0, 0), (76, .putfield 41, 4, 3), (79, .goto 55, 134, 0), (82, .iload_n 2, 0, 0), (83, .aload_n 0, 0, 0), (84, .getfield 26, 4, 4), (87, .if_icmp .le 19, 106, 0), (90, .aload_n 0, 0, 0), (91, .iconst 2, 0, 0), (92, .putfield 41, 4, 3), (95, .aload_n 0, 0, 0), (96, .aload_n 0, 0, 0), (97, .invokevirtual 44, 67, 1), (100, .putfield 48, 4, 6), (103, .goto 31, 134, 0), (106, .aload_n 0, 0, 0), (107, .iconst 3, 0, 0), (108, .putfield 41, 4, 3), (111, .aload_n 0, 0, 0), (112, .aload_n 0, 0, 0), (113, .getfield 9, 4, 0)]
def am_e66_1 : List AEn := [(116, .aload_n 0, 0, 0), (117, .getfield 26, 4, 4), (120, .iaload, 0, 0), (121, .putfield 48, 4, 6), (124, .aload_n 0, 0, 0), (125, .aload_n 0, 0, 0), (126, .getfield 26, 4, 4), (129, .iconst 1, 0, 0), (130, .iadd, 0, 0), (131, .putfield 29, 4, 5), (134, .return_, 0, 0)]
def am_M66 : AMe := (⟨"PebbleProofs$SetupText", "readToken", "()V"⟩, prog_6_method_5_code, 3, 0, none, [], am_e66_0 ++ (am_e66_1))
def am_e67_0 : List AEn := [(0, .aload_n 0, 0, 0), (1, .getfield 29, 4, 5), (4, .aload_n 0, 0, 0), (5, .getfield 26, 4, 4), (8, .isub, 0, 0), (9, .iconst 3, 0, 0), (10, .if_icmp .le 5, 15, 0), (13, .iconst (-1), 0, 0), (14, .ireturn, 0, 0), (15, .iconst 0, 0, 0), (16, .istore_n 1, 0, 0), (17, .aload_n 0, 0, 0), (18, .getfield 26, 4, 4), (21, .istore_n 2, 0, 0), (22, .iload_n 2, 0, 0), (23, .aload_n 0, 0, 0), (24, .getfield 29, 4, 5), (27, .if_icmp .ge 24, 51, 0), (30, .bipush 10, 0, 0), (32, .iload_n 1, 0, 0), (33, .imul, 0, 0), (34, .aload_n 0, 0, 0), (35, .getfield 9, 4, 0), (38, .iload_n 2, 0, 0), (39, .iaload, 0, 0), (40, .iadd, 0, 0), (41, .bipush 48, 0, 0), (43, .isub, 0, 0), (44, .istore_n 1, 0, 0), (45, .iinc 2 1, 0, 0), (48, .goto (-26), 22, 0), (51, .iload_n 1, 0, 0), (52, .ireturn, 0, 0)]
def am_M67 : AMe := (⟨"PebbleProofs$SetupText", "numberRead", "()I"⟩, prog_6_method_6_code, 3, 0, (some .int), [], am_e67_0)
def am_e68_0 : List AEn := [(0, .aload_n 0, 0, 0), (1, .getfield 41, 4, 3), (4, .iconst 1, 0, 0), (5, .if_icmp .ne 19, 24, 0), (8, .aload_n 0, 0, 0), (9, .getfield 29, 4, 5), (12, .aload_n 0, 0, 0), (13, .getfield 26, 4, 4), (16, .isub, 0, 0), (17, .aload_n 1, 0, 0), (18, .invokevirtual 51, 255, 1), (21, .if_icmp .eq 5, 26, 0), (24, .iconst 0, 0, 0), (25, .ireturn, 0, 0), (26, .iconst 0, 0, 0), (27, .istore_n 2, 0, 0), (28, .iload_n 2, 0, 0), (29, .aload_n 1, 0, 0), (30, .invokevirtual 51, 255, 1), (33, .if_icmp .ge 30, 63, 0), (36, .aload_n 0, 0, 0), (37, .getfield 9, 4, 0), (40, .aload_n 0, 0, 0), (41, .getfield 26, 4, 4), (44, .iload_n 2, 0, 0), (45, .iadd, 0, 0), (46, .iaload, 0, 0), (47, .aload_n 1, 0, 0), (48, .iload_n 2, 0, 0), (49, .invokevirtual 55, 256, 2), (52, .if_icmp .eq 5, 57, 0), (55, .iconst 0, 0, 0), (56, .ireturn, 0, 0), (57, .iinc 2 1, 0, 0), (60, .goto (-32), 28, 0), (63, .iconst 1, 0, 0), (64, .ireturn, 0, 0)]
def am_M68 : AMe := (⟨"PebbleProofs$SetupText", "isWord", "(Ljava/lang/String;)Z"⟩, prog_6_method_7_code, 3, 1, (some .boolean), [], am_e68_0)
def am_e69_0 : List AEn := [(0, .aload_n 0, 0, 0), (1, .getfield 41, 4, 3), (4, .iconst 2, 0, 0), (5, .if_icmp .ne 23, 28, 0), (8, .aload_n 0, 0, 0), (9, .getfield 48, 4, 6), (12, .iload_n 1, 0, 0), (13, .if_icmp .lt 15, 28, 0), (16, .aload_n 0, 0, 0), (17, .getfield 48, 4, 6), (20, .iload_n 2, 0, 0), (21, .if_icmp .gt 7, 28, 0), (24, .iconst 1, 0, 0), (25, .goto 4, 29, 0), (28, .iconst 0, 0, 0), (29, .ireturn, 0, 0)]
def am_M69 : AMe := (⟨"PebbleProofs$SetupText", "isNumber", "(II)Z"⟩, prog_6_method_8_code, 3, 2, (some .boolean), [], am_e69_0)
def am_e70_0 : List AEn := [(0, .aload_n 0, 0, 0), (1, .iconst 0, 0, 0), (2, .aload_n 0, 0, 0), (3, .getfield 18, 4, 2), (6, .getfield 59, 0, 0), (9, .iconst 1, 0, 0), (10, .isub, 0, 0), (11, .invokevirtual 62, 69, 3), (14, .ireturn, 0, 0)]
def am_M70 : AMe := (⟨"PebbleProofs$SetupText", "isVertex", "()Z"⟩, prog_6_method_9_code, 1, 0, (some .boolean), [], am_e70_0)
def am_e71_0 : List AEn := [(0, .aload_n 0, 0, 0), (1, .getfield 41, 4, 3), (4, .iconst 3, 0, 0), (5, .if_icmp .ne 16, 21, 0), (8, .aload_n 0, 0, 0), (9, .getfield 48, 4, 6), (12, .bipush 59, 0, 0), (14, .if_icmp .ne 7, 21, 0), (17, .iconst 1, 0, 0), (18, .goto 4, 22, 0), (21, .iconst 0, 0, 0), (22, .ireturn, 0, 0)]
def am_M71 : AMe := (⟨"PebbleProofs$SetupText", "isSemicolon", "()Z"⟩, prog_6_method_10_code, 1, 0, (some .boolean), [], am_e71_0)
def am_e72_0 : List AEn := [(0, .aload_n 0, 0, 0), (1, .iconst 0, 0, 0), (2, .putfield 29, 4, 5), (5, .aload_n 0, 0, 0), (6, .invokevirtual 66, 66, 1), (9, .aload_n 0, 0, 0), (10, .invokevirtual 69, 73, 1), (13, .istore_n 1, 0, 0), (14, .iconst 0, 0, 0), (15, .istore_n 2, 0, 0), (16, .iload_n 2, 0, 0), (17, .sipush 400, 0, 0), (20, .if_icmp .ge 29, 49, 0), (23, .iload_n 1, 0, 0), (24, .ifCond .eq 25, 49, 0), (27, .aload_n 0, 0, 0), (28, .invokevirtual 73, 71, 1), (31, .ifCond .eq 18, 49, 0), (34, .aload_n 0, 0, 0), (35, .invokevirtual 66, 66, 1), (38, .aload_n 0, 0, 0), (39, .invokevirtual 76, 74, 1), (42, .istore_n 1, 0, 0), (43, .iinc 2 1, 0, 0), (46, .goto (-30), 16, 0), (49, .iload_n 1, 0, 0), (50, .ifCond .eq 24, 74, 0), (53, .aload_n 0, 0, 0), (54, .getfield 41, 4, 3), (57, .ifCond .ne 17, 74, 0), (60, .aload_n 0, 0, 0), (61, .getfield 18, 4, 2), (64, .invokevirtual 79, 11, 1), (67, .ifCond .eq 7, 74, 0), (70, .iconst (-1), 0, 0), (71, .goto 7, 78, 0), (74, .aload_n 0, 0, 0), (75, .getfield 26, 4, 4), (78, .ireturn, 0, 0)]
def am_M72 : AMe := (⟨"PebbleProofs$SetupText", "check", "()I"⟩, prog_6_method_11_code, 3, 0, (some .int), [], am_e72_0)
def am_e73_0 : List AEn := [(0, .aload_n 0, 0, 0), (1, .ldc 82, 1, 0), (3, .invokevirtual 83, 68, 2), (6, .ifCond .ne 5, 11, 0), (9, .iconst 0, 0, 0), (10, .ireturn, 0, 0), (11, .aload_n 0, 0, 0), (12, .invokevirtual 66, 66, 1), (15, .aload_n 0, 0, 0), (16, .iconst 1, 0, 0), (17, .bipush 6, 0, 0), (19, .invokevirtual 62, 69, 3), (22, .ifCond .ne 5, 27, 0), (25, .iconst 0, 0, 0), (26, .ireturn, 0, 0), (27, .aload_n 0, 0, 0), (28, .getfield 18, 4, 2), (31, .aload_n 0, 0, 0), (32, .getfield 48, 4, 6), (35, .invokevirtual 87, 1, 2), (38, .aload_n 0, 0, 0), (39, .invokevirtual 66, 66, 1), (42, .iconst 1, 0, 0), (43, .ireturn, 0, 0)]
def am_M73 : AMe := (⟨"PebbleProofs$SetupText", "readVertices", "()Z"⟩, prog_6_method_12_code, 1, 0, (some .boolean), [], am_e73_0)
def am_e74_0 : List AEn := [(0, .aload_n 0, 0, 0), (1, .ldc 91, 1, 1), (3, .invokevirtual 83, 68, 2), (6, .ifCond .eq 8, 14, 0), (9, .aload_n 0, 0, 0), (10, .invokevirtual 93, 75, 1), (13, .ireturn, 0, 0), (14, .aload_n 0, 0, 0), (15, .ldc 96, 1, 2), (17, .invokevirtual 83, 68, 2), (20, .ifCond .eq 8, 28, 0), (23, .aload_n 0, 0, 0), (24, .invokevirtual 98, 76, 1), (27, .ireturn, 0, 0), (28, .aload_n 0, 0, 0), (29, .ldc 101, 1, 3), (31, .invokevirtual 83, 68, 2), (34, .ifCond .eq 14, 48, 0), (37, .aload_n 0, 0, 0), (38, .invokevirtual 103, 77, 1), (41, .ifCond .eq 7, 48, 0), (44, .iconst 1, 0, 0), (45, .goto 4, 49, 0), (48, .iconst 0, 0, 0), (49, .ireturn, 0, 0)]
def am_M74 : AMe := (⟨"PebbleProofs$SetupText", "readStatement", "()Z"⟩, prog_6_method_13_code, 1, 0, (some .boolean), [], am_e74_0)
def am_e75_0 : List AEn := [(0, .aload_n 0, 0, 0), (1, .invokevirtual 66, 66, 1), (4, .aload_n 0, 0, 0), (5, .invokevirtual 106, 70, 1), (8, .ifCond .ne 5, 13, 0), (11, .iconst 0, 0, 0), (12, .ireturn, 0, 0), (13, .aload_n 0, 0, 0), (14, .getfield 48, 4, 6), (17, .istore_n 1, 0, 0), (18, .aload_n 0, 0, 0), (19, .invokevirtual 66, 66, 1), (22, .iconst 0, 0, 0), (23, .istore_n 2, 0, 0), (24, .iload_n 2, 0, 0), (25, .sipush 400, 0, 0), (28, .if_icmp .ge 74, 102, 0), (31, .iload_n 2, 0, 0), (32, .ifCond .eq 11, 43, 0), (35, .aload_n 0, 0, 0), (36, .getfield 41, 4, 3), (39, .iconst 2, 0, 0), (40, .if_icmp .ne 62, 102, 0), (43, .aload_n 0, 0, 0), (44, .invokevirtual 106, 70, 1), (47, .ifCond .eq 26, 73, 0), (50, .aload_n 0, 0, 0), (51, .getfield 48, 4, 6), (54, .iload_n 1, 0, 0), (55, .if_icmp .eq 18, 73, 0), (58, .aload_n 0, 0, 0), (59, .getfield 18, 4, 2), (62, .iload_n 1, 0, 0), (63, .aload_n 0, 0, 0), (64, .getfield 48, 4, 6), (67, .invokevirtual 109, 6, 3), (70, .ifCond .eq 5, 75, 0), (73, .iconst 0, 0, 0), (74, .ireturn, 0, 0), (75, .aload_n 0, 0, 0), (76, .getfield 18, 4, 2), (79, .iload_n 1, 0, 0), (80, .aload_n 0, 0, 0), (81, .getfield 48, 4, 6), (84, .invokevirtual 112, 4, 3), (87, .aload_n 0, 0, 0), (88, .getfield 48, 4, 6), (91, .istore_n 1, 0, 0), (92, .aload_n 0, 0, 0), (93, .invokevirtual 66, 66, 1), (96, .iinc 2 1, 0, 0), (99, .goto (-75), 24, 0), (102, .iconst 1, 0, 0), (103, .ireturn, 0, 0)]
def am_M75 : AMe := (⟨"PebbleProofs$SetupText", "readPath", "()Z"⟩, prog_6_method_14_code, 3, 0, (some .boolean), [], am_e75_0)
def am_e76_0 : List AEn := [(0, .aload_n 0, 0, 0), (1, .invokevirtual 66, 66, 1), (4, .aload_n 0, 0, 0), (5, .invokevirtual 106, 70, 1), (8, .ifCond .ne 5, 13, 0), (11, .iconst 0, 0, 0), (12, .ireturn, 0, 0), (13, .aload_n 0, 0, 0), (14, .getfield 48, 4, 6), (17, .istore_n 1, 0, 0), (18, .aload_n 0, 0, 0), (19, .invokevirtual 66, 66, 1), (22, .aload_n 0, 0, 0), (23, .iconst 0, 0, 0), (24, .sipush 999, 0, 0), (27, .invokevirtual 62, 69, 3), (30, .ifCond .ne 5, 35, 0), (33, .iconst 0, 0, 0), (34, .ireturn, 0, 0), (35, .aload_n 0, 0, 0), (36, .getfield 18, 4, 2), (39, .getfield 116, 0, 4), (42, .iload_n 1, 0, 0), (43, .aload_n 0, 0, 0), (44, .getfield 48, 4, 6), (47, .iastore, 0, 0), (48, .aload_n 0, 0, 0), (49, .invokevirtual 66, 66, 1), (52, .iconst 1, 0, 0), (53, .ireturn, 0, 0)]
def am_M76 : AMe := (⟨"PebbleProofs$SetupText", "readPile", "()Z"⟩, prog_6_method_15_code, 2, 0, (some .boolean), [], am_e76_0)
def am_e77_0 : List AEn := [(0, .aload_n 0, 0, 0), (1, .getfield 18, 4, 2), (4, .getfield 118, 0, 3), (7, .bipush 6, 0, 0), (9, .if_icmp .lt 5, 14, 0), (12, .iconst 0, 0, 0), (13, .ireturn, 0, 0), (14, .aload_n 0, 0, 0), (15, .invokevirtual 66, 66, 1), (18, .aload_n 0, 0, 0), (19, .invokevirtual 106, 70, 1), (22, .ifCond .ne 5, 27, 0), (25, .iconst 0, 0, 0), (26, .ireturn, 0, 0), (27, .aload_n 0, 0, 0), (28, .getfield 18, 4, 2), (31, .aload_n 0, 0, 0), (32, .getfield 48, 4, 6), (35, .invokevirtual 121, 25, 2), (38, .aload_n 0, 0, 0), (39, .invokevirtual 66, 66, 1), (42, .iconst 0, 0, 0), (43, .istore_n 1, 0, 0), (44, .iload_n 1, 0, 0), (45, .sipush 400, 0, 0), (48, .if_icmp .ge 35, 83, 0), (51, .aload_n 0, 0, 0), (52, .getfield 41, 4, 3), (55, .iconst 2, 0, 0), (56, .if_icmp .ne 27, 83, 0), (59, .aload_n 0, 0, 0), (60, .aload_n 0, 0, 0), (61, .getfield 18, 4, 2), (64, .getfield 118, 0, 3), (67, .iconst 1, 0, 0), (68, .isub, 0, 0), (69, .invokevirtual 124, 78, 2), (72, .ifCond .ne 5, 77, 0), (75, .iconst 0, 0, 0), (76, .ireturn, 0, 0), (77, .iinc 1 1, 0, 0), (80, .goto (-36), 44, 0), (83, .iconst 1, 0, 0), (84, .ireturn, 0, 0)]
def am_M77 : AMe := (⟨"PebbleProofs$SetupText", "readStrategy", "()Z"⟩, prog_6_method_16_code, 2, 0, (some .boolean), [], am_e77_0)
def am_e78_0 : List AEn := [(0, .aload_n 0, 0, 0), (1, .invokevirtual 106, 70, 1), (4, .ifCond .eq 19, 23, 0), (7, .aload_n 0, 0, 0), (8, .getfield 48, 4, 6), (11, .aload_n 0, 0, 0), (12, .getfield 18, 4, 2), (15, .getfield 128, 0, 6), (18, .iload_n 1, 0, 0), (19, .iaload, 0, 0), (20, .if_icmp .ne 5, 25, 0), (23, .iconst 0, 0, 0), (24, .ireturn, 0, 0), (25, .aload_n 0, 0, 0), (26, .getfield 48, 4, 6), (29, .istore_n 2, 0, 0), (30, .aload_n 0, 0, 0), (31, .invokevirtual 66, 66, 1), (34, .aload_n 0, 0, 0), (35, .invokevirtual 106, 70, 1), (38, .ifCond .ne 5, 43, 0), (41, .iconst 0, 0, 0), (42, .ireturn, 0, 0), (43, .aload_n 0, 0, 0), (44, .getfield 48, 4, 6), (47, .istore_n 3, 0, 0), (48, .aload_n 0, 0, 0), (49, .invokevirtual 66, 66, 1), (52, .aload_n 0, 0, 0), (53, .iconst 0, 0, 0), (54, .bipush 64, 0, 0), (56, .invokevirtual 62, 69, 3), (59, .ifCond .ne 5, 64, 0), (62, .iconst 0, 0, 0), (63, .ireturn, 0, 0), (64, .aload_n 0, 0, 0), (65, .getfield 18, 4, 2), (68, .iload_n 1, 0, 0), (69, .iload_n 2, 0, 0), (70, .iload_n 3, 0, 0), (71, .aload_n 0, 0, 0), (72, .getfield 48, 4, 6), (75, .invokevirtual 131, 27, 5), (78, .aload_n 0, 0, 0), (79, .invokevirtual 66, 66, 1), (82, .iconst 1, 0, 0), (83, .ireturn, 0, 0)]
def am_M78 : AMe := (⟨"PebbleProofs$SetupText", "readWeight", "(I)Z"⟩, prog_6_method_17_code, 4, 1, (some .boolean), [], am_e78_0)
def am_e79_0 : List AEn := [(0, .aload_n 0, 0, 0), (1, .invokespecial 1, 901, 1), (4, .aload_n 0, 0, 0), (5, .new 7, 0, 0), (8, .dup, 0, 0), (9, .invokespecial 9, 0, 1), (12, .putfield 10, 5, 0), (15, .aload_n 0, 0, 0), (16, .new 7, 0, 0), (19, .dup, 0, 0), (20, .invokespecial 9, 0, 1), (23, .putfield 16, 5, 1), (26, .aload_n 0, 0, 0), (27, .new 19, 2, 0), (30, .dup, 0, 0), (31, .invokespecial 21, 48, 1), (34, .putfield 22, 5, 3), (37, .aload_n 0, 0, 0), (38, .new 26, 4, 0), (41, .dup, 0, 0), (42, .invokespecial 28, 62, 1), (45, .putfield 29, 5, 4), (48, .aload_n 0, 0, 0), (49, .new 33, 3, 0), (52, .dup, 0, 0), (53, .invokespecial 35, 52, 1), (56, .putfield 36, 5, 5), (59, .aload_n 0, 0, 0), (60, .bipush 6, 0, 0), (62, .anewarray 40, 4, 0), (65, .putfield 42, 5, 6), (68, .aload_n 0, 0, 0), (69, .sipush 2048, 0, 0), (72, .newarray .int, 0, 0), (74, .putfield 46, 5, 7), (77, .aload_n 0, 0, 0), (78, .getfield 10, 5, 0), (81, .iconst 3, 0, 0), (82, .invokevirtual 50, 1, 2), (85, .aload_n 0, 0, 0), (86, .getfield 10, 5, 0), (89, .iconst 0, 0, 0), (90, .iconst 1, 0, 0), (91, .invokevirtual 54, 4, 3), (94, .aload_n 0, 0, 0), (95, .getfield 10, 5, 0), (98, .iconst 1, 0, 0), (99, .iconst 2, 0, 0), (100, .invokevirtual 54, 4, 3), (103, .aload_n 0, 0, 0), (104, .getfield 10, 5, 0), (107, .invokevirtual 58, 13, 1), (110, .aload_n 0, 0, 0), (111, .getfield 10, 5, 0), (114, .getfield 61, 0, 4), (117, .iconst 0, 0, 0), (118, .iconst 4, 0, 0), (119, .iastore, 0, 0), (120, .return_, 0, 0)]
def am_M79 : AMe := (⟨"PebbleProofs", "<init>", "()V"⟩, prog_1_method_1_code, 1, 0, none, [], am_e79_0)
def am_e80_0 : List AEn := [(0, .iload_n 1, 0, 0), (1, .invokestatic 64, 63, 1), (4, .iload_n 2, 0, 0), (5, .invokestatic 64, 63, 1), (8, .iadd, 0, 0), (9, .iload_n 3, 0, 0), (10, .invokestatic 64, 63, 1), (13, .iadd, 0, 0), (14, .iload 4, 0, 0), (16, .invokestatic 64, 63, 1), (19, .iadd, 0, 0), (20, .iload 5, 0, 0), (22, .invokestatic 64, 63, 1), (25, .iadd, 0, 0), (26, .istore 6, 0, 0), (28, .aload_n 0, 0, 0), (29, .getfield 29, 5, 4), (32, .getfield 68, 4, 1), (35, .iload 6, 0, 0), (37, .iadd, 0, 0), (38, .sipush 400, 0, 0), (41, .if_icmp .le 13, 54, 0), (44, .new 72, 1000, 0), (54, .aload_n 0, 0, 0), (55, .getfield 29, 5, 4), (58, .iload_n 1, 0, 0), (59, .invokevirtual 79, 64, 2), (62, .aload_n 0, 0, 0), (63, .getfield 29, 5, 4), (66, .iload_n 2, 0, 0), (67, .invokevirtual 79, 64, 2), (70, .aload_n 0, 0, 0), (71, .getfield 29, 5, 4), (74, .iload_n 3, 0, 0), (75, .invokevirtual 79, 64, 2), (78, .aload_n 0, 0, 0), (79, .getfield 29, 5, 4), (82, .iload 4, 0, 0), (84, .invokevirtual 79, 64, 2), (87, .aload_n 0, 0, 0), (88, .getfield 29, 5, 4), (91, .iload 5, 0, 0), (93, .invokevirtual 79, 64, 2), (96, .aload_n 0, 0, 0), (97, .getfield 29, 5, 4), (100, .getfield 68, 4, 1), (103, .ireturn, 0, 0)]
def am_M80 : AMe := (⟨"PebbleProofs", "append", "(IIIII)I"⟩, prog_1_method_2_code, 7, 5, (some .int), [], am_e80_0)
def am_e81_0 : List AEn := [(0, .iload_n 1, 0, 0), (1, .ifCond .lt 14, 15, 0), (4, .iload_n 1, 0, 0), (5, .aload_n 0, 0, 0), (6, .getfield 29, 5, 4), (9, .getfield 68, 4, 1), (12, .if_icmp .le 13, 25, 0), (15, .new 82, 1000, 1), (25, .aload_n 0, 0, 0), (26, .getfield 29, 5, 4), (29, .iload_n 1, 0, 0), (30, .putfield 68, 4, 1), (33, .iload_n 1, 0, 0), (34, .ireturn, 0, 0)]
def am_M81 : AMe := (⟨"PebbleProofs", "truncate", "(I)I"⟩, prog_1_method_3_code, 2, 1, (some .int), [], am_e81_0)
def am_e82_0 : List AEn := [(0, .aload_n 0, 0, 0), (1, .getfield 29, 5, 4), (4, .invokevirtual 87, 72, 1), (7, .ireturn, 0, 0)]
def am_M82 : AMe := (⟨"PebbleProofs", "errorPosition", "()I"⟩, prog_1_method_4_code, 1, 0, (some .int), [], am_e82_0)
def am_e83_0 : List AEn := [(0, .aload_n 0, 0, 0), (1, .getfield 29, 5, 4), (4, .invokevirtual 87, 72, 1), (7, .iconst (-1), 0, 0), (8, .if_icmp .eq 13, 21, 0), (11, .new 82, 1000, 1), (21, .aload_n 0, 0, 0), (22, .getfield 10, 5, 0), (25, .aload_n 0, 0, 0), (26, .getfield 29, 5, 4), (29, .getfield 93, 4, 2), (32, .invokevirtual 96, 2, 2), (35, .aload_n 0, 0, 0), (36, .getfield 10, 5, 0), (39, .invokevirtual 58, 13, 1), (42, .aload_n 0, 0, 0), (43, .getfield 22, 5, 3), (46, .invokevirtual 100, 49, 1), (49, .aload_n 0, 0, 0), (50, .iconst 0, 0, 0), (51, .putfield 103, 5, 2), (54, .aload_n 0, 0, 0), (55, .iconst 0, 0, 0), (56, .putfield 107, 5, 8), (59, .aload_n 0, 0, 0), (60, .getfield 29, 5, 4), (63, .iconst 0, 0, 0), (64, .putfield 68, 4, 1), (67, .aload_n 0, 0, 0), (68, .getfield 10, 5, 0), (71, .getfield 110, 0, 0), (74, .ireturn, 0, 0)]
def am_M83 : AMe := (⟨"PebbleProofs", "load", "()I"⟩, prog_1_method_5_code, 1, 0, (some .int), [], am_e83_0)
def am_e84_0 : List AEn := [(0, .aload_n 0, 0, 0), (1, .iload_n 1, 0, 0), (2, .iload_n 2, 0, 0), (3, .invokevirtual 113, 125, 3), (6, .aload_n 0, 0, 0), (7, .getfield 10, 5, 0), (10, .iload_n 1, 0, 0), (11, .iload_n 2, 0, 0), (12, .invokevirtual 116, 6, 3), (15, .ifCond .eq 8, 23, 0), (18, .aload_n 0, 0, 0), (19, .iconst 1, 0, 0), (20, .invokevirtual 120, 128, 2), (23, .aload_n 0, 0, 0), (24, .getfield 22, 5, 3), (27, .aload_n 0, 0, 0), (28, .getfield 10, 5, 0), (31, .invokevirtual 123, 50, 2), (34, .aload_n 0, 0, 0), (35, .getfield 10, 5, 0), (38, .iload_n 1, 0, 0), (39, .iload_n 2, 0, 0), (40, .invokevirtual 54, 4, 3), (43, .aload_n 0, 0, 0), (44, .getfield 10, 5, 0), (47, .invokevirtual 58, 13, 1), (50, .aload_n 0, 0, 0), (51, .getfield 10, 5, 0), (54, .invokevirtual 126, 7, 1), (57, .ireturn, 0, 0)]
def am_M84 : AMe := (⟨"PebbleProofs", "addEdge", "(II)I"⟩, prog_1_method_6_code, 3, 2, (some .int), [], am_e84_0)
def am_e85_0 : List AEn := [(0, .aload_n 0, 0, 0), (1, .iload_n 1, 0, 0), (2, .iload_n 2, 0, 0), (3, .invokevirtual 113, 125, 3), (6, .aload_n 0, 0, 0), (7, .getfield 10, 5, 0), (10, .iload_n 1, 0, 0), (11, .iload_n 2, 0, 0), (12, .invokevirtual 116, 6, 3), (15, .ifCond .ne 8, 23, 0), (18, .aload_n 0, 0, 0), (19, .iconst 2, 0, 0), (20, .invokevirtual 120, 128, 2), (23, .aload_n 0, 0, 0), (24, .getfield 10, 5, 0), (27, .iload_n 1, 0, 0), (28, .iload_n 2, 0, 0), (29, .invokevirtual 129, 12, 3), (32, .ifCond .ne 8, 40, 0), (35, .aload_n 0, 0, 0), (36, .iconst 3, 0, 0), (37, .invokevirtual 120, 128, 2), (40, .aload_n 0, 0, 0), (41, .getfield 22, 5, 3), (44, .aload_n 0, 0, 0), (45, .getfield 10, 5, 0), (48, .invokevirtual 123, 50, 2), (51, .aload_n 0, 0, 0), (52, .getfield 10, 5, 0), (55, .iload_n 1, 0, 0), (56, .iload_n 2, 0, 0), (57, .invokevirtual 132, 5, 3), (60, .aload_n 0, 0, 0), (61, .getfield 10, 5, 0), (64, .invokevirtual 58, 13, 1), (67, .aload_n 0, 0, 0), (68, .getfield 10, 5, 0), (71, .invokevirtual 126, 7, 1), (74, .ireturn, 0, 0)]
def am_M85 : AMe := (⟨"PebbleProofs", "removeEdge", "(II)I"⟩, prog_1_method_7_code, 3, 2, (some .int), [], am_e85_0)
def am_e86_0 : List AEn := [(0, .aload_n 0, 0, 0), (1, .iload_n 1, 0, 0), (2, .invokevirtual 135, 124, 2), (5, .iload_n 2, 0, 0), (6, .iconst 1, 0, 0), (7, .if_icmp .lt 26, 33, 0), (10, .iload_n 2, 0, 0), (11, .bipush 99, 0, 0), (13, .if_icmp .gt 20, 33, 0), (16, .aload_n 0, 0, 0), (17, .getfield 10, 5, 0), (20, .getfield 61, 0, 4), (23, .iload_n 1, 0, 0), (24, .iaload, 0, 0), (25, .iload_n 2, 0, 0), (26, .iadd, 0, 0), (27, .sipush 999, 0, 0), (30, .if_icmp .le 13, 43, 0), (33, .new 82, 1000, 1), (43, .aload_n 0, 0, 0), (44, .getfield 22, 5, 3), (47, .aload_n 0, 0, 0), (48, .getfield 10, 5, 0), (51, .invokevirtual 123, 50, 2), (54, .aload_n 0, 0, 0), (55, .getfield 10, 5, 0), (58, .getfield 61, 0, 4), (61, .iload_n 1, 0, 0), (62, .dup2, 0, 0), (63, .iaload, 0, 0), (64, .iload_n 2, 0, 0), (65, .iadd, 0, 0), (66, .iastore, 0, 0), (67, .aload_n 0, 0, 0), (68, .getfield 10, 5, 0), (71, .getfield 61, 0, 4), (74, .iload_n 1, 0, 0), (75, .iaload, 0, 0), (76, .ireturn, 0, 0)]
def am_M86 : AMe := (⟨"PebbleProofs", "put", "(II)I"⟩, prog_1_method_8_code, 3, 2, (some .int), [], am_e86_0)
def am_e87_0 : List AEn := [(0, .aload_n 0, 0, 0), (1, .iload_n 1, 0, 0), (2, .invokevirtual 135, 124, 2), (5, .iload_n 2, 0, 0), (6, .iconst 1, 0, 0), (7, .if_icmp .lt 9, 16, 0), (10, .iload_n 2, 0, 0), (11, .bipush 99, 0, 0), (13, .if_icmp .le 13, 26, 0), (16, .new 82, 1000, 1), (26, .aload_n 0, 0, 0), (27, .getfield 10, 5, 0), (30, .getfield 61, 0, 4), (33, .iload_n 1, 0, 0), (34, .iaload, 0, 0), (35, .iload_n 2, 0, 0), (36, .if_icmp .ge 8, 44, 0), (39, .aload_n 0, 0, 0), (40, .iconst 5, 0, 0), (41, .invokevirtual 120, 128, 2), (44, .aload_n 0, 0, 0), (45, .getfield 22, 5, 3), (48, .aload_n 0, 0, 0), (49, .getfield 10, 5, 0), (52, .invokevirtual 123, 50, 2), (55, .aload_n 0, 0, 0), (56, .getfield 10, 5, 0), (59, .getfield 61, 0, 4), (62, .iload_n 1, 0, 0), (63, .dup2, 0, 0), (64, .iaload, 0, 0), (65, .iload_n 2, 0, 0), (66, .isub, 0, 0), (67, .iastore, 0, 0), (68, .aload_n 0, 0, 0), (69, .getfield 10, 5, 0), (72, .getfield 61, 0, 4), (75, .iload_n 1, 0, 0), (76, .iaload, 0, 0), (77, .ireturn, 0, 0)]
def am_M87 : AMe := (⟨"PebbleProofs", "take", "(II)I"⟩, prog_1_method_9_code, 3, 2, (some .int), [], am_e87_0)
def am_e88_0 : List AEn := [(0, .aload_n 0, 0, 0), (1, .iload_n 1, 0, 0), (2, .invokevirtual 135, 124, 2), (5, .aload_n 0, 0, 0), (6, .iload_n 2, 0, 0), (7, .invokevirtual 135, 124, 2), (10, .aload_n 0, 0, 0), (11, .getfield 10, 5, 0), (14, .iload_n 1, 0, 0), (15, .iload_n 2, 0, 0), (16, .invokevirtual 116, 6, 3), (19, .ifCond .ne 8, 27, 0), (22, .aload_n 0, 0, 0), (23, .iconst 4, 0, 0), (24, .invokevirtual 120, 128, 2), (27, .aload_n 0, 0, 0), (28, .getfield 10, 5, 0), (31, .getfield 61, 0, 4), (34, .iload_n 1, 0, 0), (35, .iaload, 0, 0), (36, .iconst 2, 0, 0), (37, .if_icmp .ge 8, 45, 0), (40, .aload_n 0, 0, 0), (41, .iconst 5, 0, 0), (42, .invokevirtual 120, 128, 2), (45, .aload_n 0, 0, 0), (46, .getfield 10, 5, 0), (49, .getfield 61, 0, 4), (52, .iload_n 2, 0, 0), (53, .iaload, 0, 0), (54, .sipush 999, 0, 0), (57, .if_icmp .lt 9, 66, 0), (60, .aload_n 0, 0, 0), (61, .bipush 6, 0, 0), (63, .invokevirtual 120, 128, 2), (66, .aload_n 0, 0, 0), (67, .getfield 22, 5, 3), (70, .aload_n 0, 0, 0), (71, .getfield 10, 5, 0), (74, .invokevirtual 123, 50, 2), (77, .aload_n 0, 0, 0), (78, .getfield 10, 5, 0), (81, .iload_n 1, 0, 0), (82, .iload_n 2, 0, 0), (83, .invokevirtual 140, 24, 3), (86, .aload_n 0, 0, 0), (87, .getfield 10, 5, 0), (90, .getfield 61, 0, 4), (93, .iload_n 2, 0, 0), (94, .iaload, 0, 0), (95, .ireturn, 0, 0)]
def am_M88 : AMe := (⟨"PebbleProofs", "move", "(II)I"⟩, prog_1_method_10_code, 3, 2, (some .int), [], am_e88_0)
def am_e89_0 : List AEn := [(0, .aload_n 0, 0, 0), (1, .iload_n 1, 0, 0), (2, .invokevirtual 135, 124, 2), (5, .aload_n 0, 0, 0), (6, .iload_n 1, 0, 0), (7, .invokevirtual 143, 129, 2), (10, .astore_n 2, 0, 0), (11, .aload_n 2, 0, 0), (12, .aload_n 0, 0, 0), (13, .getfield 10, 5, 0), (16, .getfield 61, 0, 4), (19, .invokevirtual 147, 43, 2), (22, .ifCond .eq 9, 31, 0), (25, .aload_n 0, 0, 0), (26, .bipush 6, 0, 0), (28, .invokevirtual 120, 128, 2), (31, .aload_n 0, 0, 0), (32, .getfield 22, 5, 3), (35, .aload_n 0, 0, 0), (36, .getfield 10, 5, 0), (39, .invokevirtual 123, 50, 2), (42, .iconst 0, 0, 0), (43, .istore_n 3, 0, 0), (44, .aload_n 0, 0, 0), (45, .getfield 10, 5, 0), (48, .getfield 61, 0, 4), (51, .iload_n 1, 0, 0), (52, .iaload, 0, 0), (53, .ifCond .ne 49, 102, 0), (56, .iload_n 3, 0, 0), (57, .sipush 5994, 0, 0), (60, .if_icmp .ge 42, 102, 0), (63, .aload_n 0, 0, 0), (64, .aload_n 2, 0, 0), (65, .invokevirtual 151, 130, 2), (68, .istore 4, 0, 0), (70, .iload 4, 0, 0), (72, .iconst (-1), 0, 0), (73, .if_icmp .ne 6, 79, 0), (76, .goto 26, 102, 0), (79, .aload_n 0, 0, 0), (80, .getfield 10, 5, 0), (83, .iload 4, 0, 0), (85, .bipush 10, 0, 0), (87, .idiv, 0, 0), (88, .iload 4, 0, 0), (90, .bipush 10, 0, 0), (92, .irem, 0, 0), (93, .invokevirtual 140, 24, 3), (96, .iinc 3 1, 0, 0), (99, .goto (-55), 44, 0), (102, .iload_n 3, 0, 0), (103, .ireturn, 0, 0)]
def am_M89 : AMe := (⟨"PebbleProofs", "reach", "(I)I"⟩, prog_1_method_11_code, 5, 1, (some .int), [], am_e89_0)
def am_e90_0 : List AEn := [(0, .aload_n 0, 0, 0), (1, .iload_n 1, 0, 0), (2, .invokevirtual 135, 124, 2), (5, .aload_n 0, 0, 0), (6, .getfield 10, 5, 0), (9, .getfield 155, 0, 3), (12, .bipush 6, 0, 0), (14, .if_icmp .lt 9, 23, 0), (17, .aload_n 0, 0, 0), (18, .bipush 7, 0, 0), (20, .invokevirtual 120, 128, 2), (23, .aload_n 0, 0, 0), (24, .getfield 22, 5, 3), (27, .aload_n 0, 0, 0), (28, .getfield 10, 5, 0), (31, .invokevirtual 123, 50, 2), (34, .aload_n 0, 0, 0), (35, .getfield 10, 5, 0), (38, .iload_n 1, 0, 0), (39, .invokevirtual 158, 25, 2), (42, .aload_n 0, 0, 0), (43, .getfield 10, 5, 0), (46, .getfield 155, 0, 3), (49, .iconst 1, 0, 0), (50, .isub, 0, 0), (51, .ireturn, 0, 0)]
def am_M90 : AMe := (⟨"PebbleProofs", "addStrategy", "(I)I"⟩, prog_1_method_12_code, 2, 1, (some .int), [], am_e90_0)
def am_e91_0 : List AEn := [(0, .aload_n 0, 0, 0), (1, .iload_n 1, 0, 0), (2, .invokevirtual 161, 126, 2), (5, .aload_n 0, 0, 0), (6, .iload_n 2, 0, 0), (7, .invokevirtual 135, 124, 2), (10, .aload_n 0, 0, 0), (11, .iload_n 3, 0, 0), (12, .invokevirtual 135, 124, 2), (15, .iload 4, 0, 0), (17, .ifCond .lt 23, 40, 0), (20, .iload 4, 0, 0), (22, .bipush 64, 0, 0), (24, .if_icmp .gt 16, 40, 0), (27, .iload_n 2, 0, 0), (28, .aload_n 0, 0, 0), (29, .getfield 10, 5, 0), (32, .getfield 164, 0, 6), (35, .iload_n 1, 0, 0), (36, .iaload, 0, 0), (37, .if_icmp .ne 13, 50, 0), (40, .new 82, 1000, 1), (50, .aload_n 0, 0, 0), (51, .getfield 22, 5, 3), (54, .aload_n 0, 0, 0), (55, .getfield 10, 5, 0), (58, .invokevirtual 123, 50, 2), (61, .aload_n 0, 0, 0), (62, .getfield 10, 5, 0), (65, .iload_n 1, 0, 0), (66, .iload_n 2, 0, 0), (67, .invokevirtual 169, 28, 3), (70, .istore 5, 0, 0), (72, .aload_n 0, 0, 0), (73, .getfield 10, 5, 0), (76, .iload_n 1, 0, 0), (77, .iload_n 2, 0, 0), (78, .iload_n 3, 0, 0), (79, .iload 4, 0, 0), (81, .invokevirtual 173, 27, 5), (84, .iload 5, 0, 0), (86, .ireturn, 0, 0)]
def am_M91 : AMe := (⟨"PebbleProofs", "weigh", "(IIII)I"⟩, prog_1_method_13_code, 6, 4, (some .int), [], am_e91_0)
def am_e92_0 : List AEn := [(0, .aload_n 0, 0, 0), (1, .iload_n 1, 0, 0), (2, .invokevirtual 161, 126, 2), (5, .aload_n 0, 0, 0), (6, .getfield 22, 5, 3), (9, .aload_n 0, 0, 0), (10, .getfield 10, 5, 0), (13, .invokevirtual 123, 50, 2), (16, .aload_n 0, 0, 0), (17, .getfield 10, 5, 0), (20, .iload_n 1, 0, 0), (21, .invokevirtual 177, 26, 2), (24, .aload_n 0, 0, 0), (25, .getfield 10, 5, 0), (28, .getfield 155, 0, 3), (31, .ireturn, 0, 0)]
def am_M92 : AMe := (⟨"PebbleProofs", "dropStrategy", "(I)I"⟩, prog_1_method_14_code, 2, 1, (some .int), [], am_e92_0)
def am_e93_0 : List AEn := [(0, .aload_n 0, 0, 0), (1, .getfield 22, 5, 3), (4, .getfield 180, 2, 2), (7, .ifCond .ne 13, 20, 0), (10, .new 72, 1000, 0), (20, .aload_n 0, 0, 0), (21, .getfield 22, 5, 3), (24, .aload_n 0, 0, 0), (25, .getfield 10, 5, 0), (28, .invokevirtual 185, 51, 2), (31, .aload_n 0, 0, 0), (32, .getfield 22, 5, 3), (35, .getfield 180, 2, 2), (38, .ireturn, 0, 0)]
def am_M93 : AMe := (⟨"PebbleProofs", "undo", "()I"⟩, prog_1_method_15_code, 1, 0, (some .int), [], am_e93_0)
def am_e94_0 : List AEn := [(0, .aload_n 0, 0, 0), (1, .getfield 22, 5, 3), (4, .getfield 180, 2, 2), (7, .ireturn, 0, 0)]
def am_M94 : AMe := (⟨"PebbleProofs", "undoCount", "()I"⟩, prog_1_method_16_code, 1, 0, (some .int), [], am_e94_0)
def am_e95_0 : List AEn := [(0, .aload_n 0, 0, 0), (1, .getfield 16, 5, 1), (4, .aload_n 0, 0, 0), (5, .getfield 10, 5, 0), (8, .invokevirtual 96, 2, 2), (11, .aload_n 0, 0, 0), (12, .iconst 1, 0, 0), (13, .putfield 103, 5, 2), (16, .aload_n 0, 0, 0), (17, .getfield 10, 5, 0), (20, .getfield 110, 0, 0), (23, .ireturn, 0, 0)]
def am_M95 : AMe := (⟨"PebbleProofs", "save", "()I"⟩, prog_1_method_17_code, 1, 0, (some .int), [], am_e95_0)
def am_e96_0 : List AEn := [(0, .aload_n 0, 0, 0), (1, .getfield 103, 5, 2), (4, .ifCond .ne 13, 17, 0), (7, .new 72, 1000, 0), (17, .aload_n 0, 0, 0), (18, .getfield 10, 5, 0), (21, .aload_n 0, 0, 0), (22, .getfield 16, 5, 1), (25, .invokevirtual 96, 2, 2), (28, .aload_n 0, 0, 0), (29, .getfield 22, 5, 3), (32, .invokevirtual 100, 49, 1), (35, .aload_n 0, 0, 0), (36, .getfield 10, 5, 0), (39, .getfield 110, 0, 0), (42, .ireturn, 0, 0)]
def am_M96 : AMe := (⟨"PebbleProofs", "restore", "()I"⟩, prog_1_method_18_code, 1, 0, (some .int), [], am_e96_0)
def am_e97_0 : List AEn := [(0, .aload_n 0, 0, 0), (1, .getfield 107, 5, 8), (4, .ireturn, 0, 0)]
def am_M97 : AMe := (⟨"PebbleProofs", "reason", "()I"⟩, prog_1_method_19_code, 1, 0, (some .int), [], am_e97_0)
def am_e98_0 : List AEn := [(0, .iload_n 1, 0, 0), (1, .tableswitch 87 0 5 #[39, 47, 55, 63, 71, 79], 0, 39), (40, .aload_n 0, 0, 0), (41, .getfield 10, 5, 0), (44, .getfield 110, 0, 0), (47, .ireturn, 0, 0), (48, .aload_n 0, 0, 0), (49, .getfield 10, 5, 0), (52, .invokevirtual 126, 7, 1), (55, .ireturn, 0, 0), (56, .aload_n 0, 0, 0), (57, .getfield 10, 5, 0), (60, .invokevirtual 190, 22, 1), (63, .ireturn, 0, 0), (64, .aload_n 0, 0, 0), (65, .getfield 10, 5, 0), (68, .getfield 193, 0, 2), (71, .ireturn, 0, 0), (72, .aload_n 0, 0, 0), (73, .getfield 10, 5, 0), (76, .getfield 155, 0, 3), (79, .ireturn, 0, 0), (80, .aload_n 0, 0, 0), (81, .getfield 10, 5, 0), (84, .invokevirtual 196, 18, 1), (87, .ireturn, 0, 0), (88, .new 82, 1000, 1)]
def am_M98 : AMe := (⟨"PebbleProofs", "count", "(I)I"⟩, prog_1_method_20_code, 2, 1, (some .int), [], am_e98_0)
def am_e99_0 : List AEn := [(0, .aload_n 0, 0, 0), (1, .iload_n 1, 0, 0), (2, .invokevirtual 135, 124, 2), (5, .aload_n 0, 0, 0), (6, .iload_n 2, 0, 0), (7, .invokevirtual 135, 124, 2), (10, .aload_n 0, 0, 0), (11, .getfield 10, 5, 0), (14, .iload_n 1, 0, 0), (15, .iload_n 2, 0, 0), (16, .invokevirtual 116, 6, 3), (19, .ireturn, 0, 0)]
def am_M99 : AMe := (⟨"PebbleProofs", "isEdge", "(II)Z"⟩, prog_1_method_21_code, 3, 2, (some .boolean), [], am_e99_0)
def am_e100_0 : List AEn := [(0, .aload_n 0, 0, 0), (1, .iload_n 1, 0, 0), (2, .invokevirtual 135, 124, 2), (5, .aload_n 0, 0, 0), (6, .iload_n 2, 0, 0), (7, .invokevirtual 135, 124, 2), (10, .aload_n 0, 0, 0), (11, .getfield 10, 5, 0), (14, .iload_n 1, 0, 0), (15, .iload_n 2, 0, 0), (16, .invokevirtual 201, 15, 3), (19, .ireturn, 0, 0)]
def am_M100 : AMe := (⟨"PebbleProofs", "distance", "(II)I"⟩, prog_1_method_22_code, 3, 2, (some .int), [], am_e100_0)
def am_e102_0 : List AEn := [(0, .aload_n 0, 0, 0), (1, .iload_n 1, 0, 0), (2, .invokevirtual 135, 124, 2), (5, .aload_n 0, 0, 0), (6, .getfield 10, 5, 0), (9, .getfield 61, 0, 4), (12, .iload_n 1, 0, 0), (13, .iaload, 0, 0), (14, .ireturn, 0, 0)]
def am_M102 : AMe := (⟨"PebbleProofs", "pebbles", "(I)I"⟩, prog_1_method_24_code, 2, 1, (some .int), [], am_e102_0)
def am_e115_0 : List AEn := [(0, .aload_n 0, 0, 0), (1, .iload_n 1, 0, 0), (2, .invokevirtual 161, 126, 2), (5, .aload_n 0, 0, 0), (6, .iload_n 2, 0, 0), (7, .invokevirtual 135, 124, 2), (10, .iload_n 3, 0, 0), (11, .tableswitch 55 0 2 #[25, 35, 45], 0, 25), (36, .aload_n 0, 0, 0), (37, .getfield 10, 5, 0), (40, .getfield 164, 0, 6), (43, .iload_n 1, 0, 0), (44, .iaload, 0, 0), (45, .ireturn, 0, 0), (46, .aload_n 0, 0, 0), (47, .getfield 10, 5, 0), (50, .iload_n 1, 0, 0), (51, .iload_n 2, 0, 0), (52, .invokevirtual 169, 28, 3), (55, .ireturn, 0, 0), (56, .aload_n 0, 0, 0), (57, .getfield 10, 5, 0), (60, .iload_n 1, 0, 0), (61, .iload_n 2, 0, 0), (62, .invokevirtual 257, 29, 3), (65, .ireturn, 0, 0), (66, .new 82, 1000, 1)]
def am_M115 : AMe := (⟨"PebbleProofs", "strategy", "(III)I"⟩, prog_1_method_37_code, 4, 3, (some .int), [], am_e115_0)
def am_e124_0 : List AEn := [(0, .iload_n 1, 0, 0), (1, .ifCond .lt 14, 15, 0), (4, .iload_n 1, 0, 0), (5, .aload_n 0, 0, 0), (6, .getfield 10, 5, 0), (9, .getfield 110, 0, 0), (12, .if_icmp .lt 14, 26, 0), (15, .new 288, 1000, 2), (26, .return_, 0, 0)]
def am_M124 : AMe := (⟨"PebbleProofs", "needVertex", "(I)V"⟩, prog_1_method_46_code, 2, 1, none, [], am_e124_0)
def am_e125_0 : List AEn := [(0, .aload_n 0, 0, 0), (1, .iload_n 1, 0, 0), (2, .invokevirtual 135, 124, 2), (5, .aload_n 0, 0, 0), (6, .iload_n 2, 0, 0), (7, .invokevirtual 135, 124, 2), (10, .iload_n 1, 0, 0), (11, .iload_n 2, 0, 0), (12, .if_icmp .ne 14, 26, 0), (15, .new 82, 1000, 1), (26, .return_, 0, 0)]
def am_M125 : AMe := (⟨"PebbleProofs", "needTwoVertices", "(II)V"⟩, prog_1_method_47_code, 3, 2, none, [], am_e125_0)
def am_e126_0 : List AEn := [(0, .iload_n 1, 0, 0), (1, .ifCond .lt 14, 15, 0), (4, .iload_n 1, 0, 0), (5, .aload_n 0, 0, 0), (6, .getfield 10, 5, 0), (9, .getfield 155, 0, 3), (12, .if_icmp .lt 14, 26, 0), (15, .new 288, 1000, 2), (26, .return_, 0, 0)]
def am_M126 : AMe := (⟨"PebbleProofs", "needStrategy", "(I)V"⟩, prog_1_method_48_code, 2, 1, none, [], am_e126_0)
def am_e128_0 : List AEn := [(0, .aload_n 0, 0, 0), (1, .iload_n 1, 0, 0), (2, .putfield 107, 5, 8), (5, .new 72, 1000, 0)]
def am_M128 : AMe := (⟨"PebbleProofs", "refuse", "(I)V"⟩, prog_1_method_50_code, 2, 1, none, [], am_e128_0)
def am_e129_0 : List AEn := [(0, .aload_n 0, 0, 0), (1, .getfield 42, 5, 6), (4, .iload_n 1, 0, 0), (5, .aaload, 0, 0), (6, .astore_n 2, 0, 0), (7, .aload_n 2, 0, 0), (8, .ifnonnull 19, 27, 0), (11, .new 40, 1, 0), (14, .dup, 0, 0), (15, .iload_n 1, 0, 0), (16, .invokespecial 301, 36, 2), (19, .astore_n 2, 0, 0), (20, .aload_n 0, 0, 0), (21, .getfield 42, 5, 6), (24, .iload_n 1, 0, 0), (25, .aload_n 2, 0, 0), (26, .aastore, 0, 0), (27, .aload_n 2, 0, 0), (28, .aload_n 0, 0, 0), (29, .getfield 10, 5, 0), (32, .invokevirtual 303, 37, 2), (35, .ifCond .ne 15, 50, 0), (38, .aload_n 2, 0, 0), (39, .aload_n 0, 0, 0), (40, .getfield 10, 5, 0), (43, .aload_n 0, 0, 0), (44, .getfield 46, 5, 7), (47, .invokevirtual 307, 44, 3), (50, .aload_n 2, 0, 0), (51, .areturn, 0, 0)]
def am_M129 : AMe := (⟨"PebbleProofs", "failingPilesOf", "(I)LPebbleProofs$FailingPiles;"⟩, prog_1_method_51_code, 3, 1, (some (.object "PebbleProofs$FailingPiles")), [], am_e129_0)
def am_e130_0 : List AEn := [(0, .iconst 0, 0, 0), (1, .istore_n 2, 0, 0), (2, .iload_n 2, 0, 0), (3, .aload_n 0, 0, 0), (4, .getfield 10, 5, 0), (7, .getfield 110, 0, 0), (10, .if_icmp .ge 57, 67, 0), (13, .iconst 0, 0, 0), (14, .istore_n 3, 0, 0), (15, .iload_n 3, 0, 0), (16, .aload_n 0, 0, 0), (17, .getfield 10, 5, 0), (20, .getfield 110, 0, 0), (23, .if_icmp .ge 38, 61, 0), (26, .aload_n 0, 0, 0), (27, .getfield 10, 5, 0), (30, .iload_n 2, 0, 0), (31, .iload_n 3, 0, 0), (32, .invokevirtual 207, 23, 3), (35, .ifCond .eq 20, 55, 0), (38, .aload_n 0, 0, 0), (39, .iload_n 2, 0, 0), (40, .iload_n 3, 0, 0), (41, .aload_n 1, 0, 0), (42, .invokevirtual 311, 131, 4), (45, .ifCond .ne 10, 55, 0), (48, .bipush 10, 0, 0), (50, .iload_n 2, 0, 0), (51, .imul, 0, 0), (52, .iload_n 3, 0, 0), (53, .iadd, 0, 0), (54, .ireturn, 0, 0), (55, .iinc 3 1, 0, 0), (58, .goto (-43), 15, 0), (61, .iinc 2 1, 0, 0), (64, .goto (-62), 2, 0), (67, .iconst (-1), 0, 0), (68, .ireturn, 0, 0)]
def am_M130 : AMe := (⟨"PebbleProofs", "firstMove", "(LPebbleProofs$FailingPiles;)I"⟩, prog_1_method_52_code, 4, 1, (some .int), [], am_e130_0)
def am_e131_0 : List AEn := [(0, .aload_n 0, 0, 0), (1, .getfield 10, 5, 0), (4, .getfield 61, 0, 4), (7, .iload_n 1, 0, 0), (8, .dup2, 0, 0), (9, .iaload, 0, 0), (10, .iconst 2, 0, 0), (11, .isub, 0, 0), (12, .iastore, 0, 0), (13, .aload_n 0, 0, 0), (14, .getfield 10, 5, 0), (17, .getfield 61, 0, 4), (20, .iload_n 2, 0, 0), (21, .dup2, 0, 0), (22, .iaload, 0, 0), (23, .iconst 1, 0, 0), (24, .iadd, 0, 0), (25, .iastore, 0, 0), (26, .aload_n 3, 0, 0), (27, .aload_n 0, 0, 0), (28, .getfield 10, 5, 0), (31, .getfield 61, 0, 4), (34, .invokevirtual 147, 43, 2), (37, .istore 4, 0, 0), (39, .aload_n 0, 0, 0), (40, .getfield 10, 5, 0), (43, .getfield 61, 0, 4), (46, .iload_n 1, 0, 0), (47, .dup2, 0, 0), (48, .iaload, 0, 0), (49, .iconst 2, 0, 0), (50, .iadd, 0, 0), (51, .iastore, 0, 0), (52, .aload_n 0, 0, 0), (53, .getfield 10, 5, 0), (56, .getfield 61, 0, 4), (59, .iload_n 2, 0, 0), (60, .dup2, 0, 0), (61, .iaload, 0, 0), (62, .iconst 1, 0, 0), (63, .isub, 0, 0), (64, .iastore, 0, 0), (65, .iload 4, 0, 0), (67, .ireturn, 0, 0)]
def am_M131 : AMe := (⟨"PebbleProofs", "failsAfter", "(IILPebbleProofs$FailingPiles;)Z"⟩, prog_1_method_53_code, 5, 3, (some .boolean), [], am_e131_0)
def am_e253_0 : List AEn := [(0, .iload_n 0, 0, 0), (1, .iload_n 0, 0, 0), (2, .iconst 1, 0, 0), (3, .iushr, 0, 0), (4, .ldc_w 265, 0, 1431655765), (7, .iand, 0, 0), (8, .isub, 0, 0), (9, .istore_n 0, 0, 0), (10, .iload_n 0, 0, 0), (11, .ldc_w 266, 0, 858993459), (14, .iand, 0, 0), (15, .iload_n 0, 0, 0), (16, .iconst 2, 0, 0), (17, .iushr, 0, 0), (18, .ldc_w 266, 0, 858993459), (21, .iand, 0, 0), (22, .iadd, 0, 0), (23, .istore_n 0, 0, 0), (24, .iload_n 0, 0, 0), (25, .iload_n 0, 0, 0), (26, .iconst 4, 0, 0), (27, .iushr, 0, 0), (28, .iadd, 0, 0), (29, .ldc_w 267, 0, 252645135), (32, .iand, 0, 0), (33, .istore_n 0, 0, 0), (34, .iload_n 0, 0, 0), (35, .iload_n 0, 0, 0), (36, .bipush 8, 0, 0), (38, .iushr, 0, 0), (39, .iadd, 0, 0), (40, .istore_n 0, 0, 0), (41, .iload_n 0, 0, 0), (42, .iload_n 0, 0, 0), (43, .bipush 16, 0, 0), (45, .iushr, 0, 0), (46, .iadd, 0, 0), (47, .istore_n 0, 0, 0), (48, .iload_n 0, 0, 0), (49, .bipush 63, 0, 0), (51, .iand, 0, 0), (52, .ireturn, 0, 0)]
def am_M253 : AMe := (⟨"java/lang/Integer", "bitCount", "(I)I"⟩, prog_21_method_49_code, 1, 1, (some .int), [], am_e253_0)
def am_e254_0 : List AEn := [(0, .lload_n 0, 0, 0), (1, .lload_n 0, 0, 0), (2, .iconst 1, 0, 0), (3, .lushr, 0, 0), (4, .ldc2_w 314, 6148914691236517205, 0), (7, .land, 0, 0), (8, .lsub, 0, 0), (9, .lstore_n 0, 0, 0), (10, .lload_n 0, 0, 0), (11, .ldc2_w 316, 3689348814741910323, 0), (14, .land, 0, 0), (15, .lload_n 0, 0, 0), (16, .iconst 2, 0, 0), (17, .lushr, 0, 0), (18, .ldc2_w 316, 3689348814741910323, 0), (21, .land, 0, 0), (22, .ladd, 0, 0), (23, .lstore_n 0, 0, 0), (24, .lload_n 0, 0, 0), (25, .lload_n 0, 0, 0), (26, .iconst 4, 0, 0), (27, .lushr, 0, 0), (28, .ladd, 0, 0), (29, .ldc2_w 318, 1085102592571150095, 0), (32, .land, 0, 0), (33, .lstore_n 0, 0, 0), (34, .lload_n 0, 0, 0), (35, .lload_n 0, 0, 0), (36, .bipush 8, 0, 0), (38, .lushr, 0, 0), (39, .ladd, 0, 0), (40, .lstore_n 0, 0, 0), (41, .lload_n 0, 0, 0), (42, .lload_n 0, 0, 0), (43, .bipush 16, 0, 0), (45, .lushr, 0, 0), (46, .ladd, 0, 0), (47, .lstore_n 0, 0, 0), (48, .lload_n 0, 0, 0), (49, .lload_n 0, 0, 0), (50, .bipush 32, 0, 0), (52, .lushr, 0, 0), (53, .ladd, 0, 0), (54, .lstore_n 0, 0, 0), (55, .lload_n 0, 0, 0), (56, .l2i, 0, 0), (57, .bipush 127, 0, 0), (59, .iand, 0, 0), (60, .ireturn, 0, 0)]
def am_M254 : AMe := (⟨"java/lang/Long", "bitCount", "(J)I"⟩, prog_23_method_50_code, 2, 1, (some .int), [], am_e254_0)
def am_e255_0 : List AEn := [(0, .aload_n 0, 0, 0), (1, .getfield 9, 8, 0), (4, .arraylength, 0, 0), (5, .aload_n 0, 0, 0), (6, .invokevirtual 335, 257, 1), (9, .ishr, 0, 0), (10, .ireturn, 0, 0)]
def am_M255 : AMe := (⟨"java/lang/String", "length", "()I"⟩, prog_27_method_54_code, 1, 0, (some .int), [], am_e255_0)
def am_e256_0 : List AEn := [(0, .aload_n 0, 0, 0), (1, .invokevirtual 492, 258, 1), (4, .ifCond .eq 12, 16, 0), (7, .aload_n 0, 0, 0), (8, .getfield 9, 8, 0), (11, .iload_n 1, 0, 0), (12, .invokestatic 495, 260, 2), (15, .ireturn, 0, 0), (16, .aload_n 0, 0, 0), (17, .getfield 9, 8, 0), (20, .iload_n 1, 0, 0), (21, .invokestatic 498, 999, 2), (24, .ireturn, 0, 0)]
def am_M256 : AMe := (⟨"java/lang/String", "charAt", "(I)C"⟩, prog_27_method_56_code, 2, 1, (some .char), [], am_e256_0)
def am_e257_0 : List AEn := [(0, .getstatic 38, 0, 0), (3, .ifCond .eq 10, 13, 0), (6, .aload_n 0, 0, 0), (7, .getfield 15, 8, 1), (10, .goto 4, 14, 0), (13, .iconst 1, 0, 0), (14, .ireturn, 0, 0)]
def am_M257 : AMe := (⟨"java/lang/String", "coder", "()B"⟩, prog_27_method_152_code, 1, 0, (some .byte), [], am_e257_0)
def am_e258_0 : List AEn := [(0, .getstatic 38, 0, 0), (3, .ifCond .eq 14, 17, 0), (6, .aload_n 0, 0, 0), (7, .getfield 15, 8, 1), (10, .ifCond .ne 7, 17, 0), (13, .iconst 1, 0, 0), (14, .goto 4, 18, 0), (17, .iconst 0, 0, 0), (18, .ireturn, 0, 0)]
def am_M258 : AMe := (⟨"java/lang/String", "isLatin1", "()Z"⟩, prog_27_method_154_code, 1, 0, (some .boolean), [], am_e258_0)
def am_e259_0 : List AEn := [(0, .iload_n 0, 0, 0), (1, .iload_n 1, 0, 0), (2, .getstatic 1053, 1, 0), (5, .invokestatic 1059, 262, 3), (8, .pop, 0, 0), (9, .return_, 0, 0)]
def am_M259 : AMe := (⟨"java/lang/String", "checkIndex", "(II)V"⟩, prog_27_method_155_code, 2, 2, none, [], am_e259_0)
def am_e260_0 : List AEn := [(0, .iload_n 1, 0, 0), (1, .aload_n 0, 0, 0), (2, .arraylength, 0, 0), (3, .invokestatic 9, 259, 2), (6, .aload_n 0, 0, 0), (7, .iload_n 1, 0, 0), (8, .baload, 0, 0), (9, .sipush 255, 0, 0), (12, .iand, 0, 0), (13, .i2c, 0, 0), (14, .ireturn, 0, 0)]
def am_M260 : AMe := (⟨"java/lang/StringLatin1", "charAt", "([BI)C"⟩, prog_29_method_2_code, 2, 2, (some .char), [], am_e260_0)
def am_e261_0 : List AEn := [(0, .iconst 0, 0, 0), (1, .istore_n 2, 0, 0), (2, .aload_n 0, 0, 0), (3, .arraylength, 0, 0), (4, .istore_n 3, 0, 0), (5, .iload_n 2, 0, 0), (6, .iload_n 3, 0, 0), (7, .if_icmp .ge 13, 20, 0), (10, .aload_n 0, 0, 0), (11, .iload_n 2, 0, 0), (12, .iload_n 1, 0, 0), (13, .iastore, 0, 0), (14, .iinc 2 1, 0, 0), (17, .goto (-12), 5, 0), (20, .return_, 0, 0)]
def am_M261 : AMe := (⟨"java/util/Arrays", "fill", "([II)V"⟩, prog_39_method_103_code, 4, 2, none, [], am_e261_0)
def am_e262_0 : List AEn := [(0, .iload_n 0, 0, 0), (1, .ifCond .lt 8, 9, 0), (4, .iload_n 0, 0, 0), (5, .iload_n 1, 0, 0), (6, .if_icmp .lt 10, 16, 0), (9, .aload_n 2, 0, 0), (10, .iload_n 0, 0, 0), (11, .iload_n 1, 0, 0), (12, .invokestatic 95, 999, 0), (15, .athrow, 0, 0), (16, .iload_n 0, 0, 0), (17, .ireturn, 0, 0)]
def am_M262 : AMe := (⟨"jdk/internal/util/Preconditions", "checkIndex", "(IILjava/util/function/BiFunction;)I"⟩, prog_48_method_11_code, 3, 3, (some .int), [], am_e262_0)
def am_e300_0 : List AEn := [(0, .aload_n 0, 0, 0), (1, .invokespecial 3, 901, 1), (4, .return_, 0, 0)]
def am_M300 : AMe := (⟨"PebbleProofsLaw$Why", "<init>", "()V"⟩, prog_8_method_1_code, 1, 0, none, [], am_e300_0)
def am_e301_0 : List AEn := [(0, .aload_n 0, 0, 0), (1, .iload_n 1, 0, 0), (2, .putfield 9, 6, 0), (5, .ldc 15, 0, 3294967293), (7, .ireturn, 0, 0)]
def am_M301 : AMe := (⟨"PebbleProofsLaw$Why", "refuses", "(I)I"⟩, prog_8_method_2_code, 2, 1, (some .int), [], am_e301_0)
def am_e302_0 : List AEn := [(0, .aload_n 0, 0, 0), (1, .invokespecial 3, 901, 1), (4, .aload_n 0, 0, 0), (5, .new 9, 10, 0), (8, .dup, 0, 0), (9, .invokespecial 11, 346, 1), (12, .putfield 12, 7, 4), (15, .aload_n 0, 0, 0), (16, .iconst 0, 0, 0), (17, .newarray .byte, 0, 0), (19, .putfield 18, 7, 5), (22, .aload_n 0, 0, 0), (23, .iconst (-1), 0, 0), (24, .putfield 22, 7, 6), (27, .aload_n 0, 0, 0), (28, .iconst 0, 0, 0), (29, .newarray .int, 0, 0), (31, .putfield 26, 7, 7), (34, .aload_n 0, 0, 0), (35, .iload_n 1, 0, 0), (36, .putfield 30, 7, 0), (39, .aload_n 0, 0, 0), (40, .iload_n 1, 0, 0), (41, .iload_n 1, 0, 0), (42, .multianewarray 33 2, 6, 0), (46, .putfield 35, 7, 1), (49, .aload_n 0, 0, 0), (50, .iload_n 1, 0, 0), (51, .newarray .int, 0, 0), (53, .putfield 38, 7, 2), (56, .return_, 0, 0)]
def am_M302 : AMe := (⟨"PebbleProofsLaw$Yard", "<init>", "(I)V"⟩, prog_9_method_1_code, 2, 1, none, [], am_e302_0)
def am_e303_0 : List AEn := [(0, .aload_n 0, 0, 0), (1, .aload_n 1, 0, 0), (2, .getfield 30, 7, 0), (5, .invokespecial 41, 302, 2), (8, .iconst 0, 0, 0), (9, .istore_n 2, 0, 0), (10, .iload_n 2, 0, 0), (11, .aload_n 0, 0, 0), (12, .getfield 30, 7, 0), (15, .if_icmp .ge 30, 45, 0), (18, .aload_n 1, 0, 0), (19, .getfield 35, 7, 1), (22, .iload_n 2, 0, 0), (23, .aaload, 0, 0), (24, .iconst 0, 0, 0), (25, .aload_n 0, 0, 0), (26, .getfield 35, 7, 1), (29, .iload_n 2, 0, 0), (30, .aaload, 0, 0), (31, .iconst 0, 0, 0), (32, .aload_n 0, 0, 0), (33, .getfield 30, 7, 0), (36, .invokestatic 44, 900, 5), (39, .iinc 2 1, 0, 0), (42, .goto (-32), 10, 0), (45, .aload_n 1, 0, 0), (46, .getfield 38, 7, 2), (49, .iconst 0, 0, 0), (50, .aload_n 0, 0, 0), (51, .getfield 38, 7, 2), (54, .iconst 0, 0, 0), (55, .aload_n 0, 0, 0), (56, .getfield 30, 7, 0), (59, .invokestatic 44, 900, 5), (62, .aload_n 0, 0, 0), (63, .aload_n 1, 0, 0), (64, .getfield 50, 7, 3), (67, .putfield 50, 7, 3), (70, .aload_n 1, 0, 0), (71, .getfield 12, 7, 4), (74, .invokevirtual 53, 358, 1), (77, .astore_n 2, 0, 0), (78, .aload_n 2, 0, 0), (79, .invokeinterface 57 1, 343, 1), (84, .ifCond .eq 31, 115, 0), (87, .aload_n 2, 0, 0), (88, .invokeinterface 63 1, 344, 1), (93, .checkcast 67, 100, 0), (96, .astore_n 3, 0, 0), (97, .aload_n 0, 0, 0), (98, .getfield 12, 7, 4), (101, .aload_n 3, 0, 0), (102, .invokevirtual 68, 904, 1), (105, .checkcast 67, 100, 0), (108, .invokevirtual 71, 354, 2), (111, .pop, 0, 0), (112, .goto (-34), 78, 0), (115, .return_, 0, 0)]
def am_M303 : AMe := (⟨"PebbleProofsLaw$Yard", "<init>", "(LPebbleProofsLaw$Yard;)V"⟩, prog_9_method_2_code, 4, 1, none, [], am_e303_0)
def am_e304_0 : List AEn := [(0, .aload_n 0, 0, 0), (1, .getfield 35, 7, 1), (4, .iload_n 1, 0, 0), (5, .aaload, 0, 0), (6, .iload_n 2, 0, 0), (7, .aload_n 0, 0, 0), (8, .getfield 35, 7, 1), (11, .iload_n 1, 0, 0), (12, .aaload, 0, 0), (13, .iload_n 2, 0, 0), (14, .baload, 0, 0), (15, .ifCond .ne 7, 22, 0), (18, .iconst 1, 0, 0), (19, .goto 4, 23, 0), (22, .iconst 0, 0, 0), (23, .bastore, 0, 0), (24, .aload_n 0, 0, 0), (25, .getfield 35, 7, 1), (28, .iload_n 2, 0, 0), (29, .aaload, 0, 0), (30, .iload_n 1, 0, 0), (31, .aload_n 0, 0, 0), (32, .getfield 35, 7, 1), (35, .iload_n 2, 0, 0), (36, .aaload, 0, 0), (37, .iload_n 1, 0, 0), (38, .baload, 0, 0), (39, .ifCond .ne 7, 46, 0), (42, .iconst 1, 0, 0), (43, .goto 4, 47, 0), (46, .iconst 0, 0, 0), (47, .bastore, 0, 0), (48, .aload_n 0, 0, 0), (49, .iconst (-1), 0, 0), (50, .putfield 22, 7, 6), (53, .return_, 0, 0)]
def am_M304 : AMe := (⟨"PebbleProofsLaw$Yard", "turn", "(II)V"⟩, prog_9_method_3_code, 3, 2, none, [], am_e304_0)
def am_e305_0 : List AEn := [(0, .iconst 0, 0, 0), (1, .istore_n 1, 0, 0), (2, .iconst 0, 0, 0), (3, .istore_n 2, 0, 0), (4, .iload_n 2, 0, 0), (5, .aload_n 0, 0, 0), (6, .getfield 30, 7, 0), (9, .if_icmp .ge 41, 50, 0), (12, .iconst 0, 0, 0), (13, .istore_n 3, 0, 0), (14, .iload_n 3, 0, 0), (15, .iload_n 2, 0, 0), (16, .if_icmp .ge 28, 44, 0), (19, .iload_n 1, 0, 0), (20, .aload_n 0, 0, 0), (21, .getfield 35, 7, 1), (24, .iload_n 2, 0, 0), (25, .aaload, 0, 0), (26, .iload_n 3, 0, 0), (27, .baload, 0, 0), (28, .ifCond .eq 7, 35, 0), (31, .iconst 1, 0, 0), (32, .goto 4, 36, 0), (35, .iconst 0, 0, 0), (36, .iadd, 0, 0), (37, .istore_n 1, 0, 0), (38, .iinc 3 1, 0, 0), (41, .goto (-27), 14, 0), (44, .iinc 2 1, 0, 0), (47, .goto (-43), 4, 0), (50, .iload_n 1, 0, 0), (51, .ireturn, 0, 0)]
def am_M305 : AMe := (⟨"PebbleProofsLaw$Yard", "edges", "()I"⟩, prog_9_method_4_code, 4, 0, (some .int), [], am_e305_0)
def am_e306_0 : List AEn := [(0, .aload_n 0, 0, 0), (1, .getfield 30, 7, 0), (4, .aload_n 0, 0, 0), (5, .getfield 30, 7, 0), (8, .multianewarray 75 2, 7, 0), (12, .astore_n 1, 0, 0), (13, .iconst 0, 0, 0), (14, .istore_n 2, 0, 0), (15, .iload_n 2, 0, 0), (16, .aload_n 0, 0, 0), (17, .getfield 30, 7, 0), (20, .if_icmp .ge 56, 76, 0), (23, .iconst 0, 0, 0), (24, .istore_n 3, 0, 0), (25, .iload_n 3, 0, 0), (26, .aload_n 0, 0, 0), (27, .getfield 30, 7, 0), (30, .if_icmp .ge 40, 70, 0), (33, .aload_n 1, 0, 0), (34, .iload_n 2, 0, 0), (35, .aaload, 0, 0), (36, .iload_n 3, 0, 0), (37, .iload_n 2, 0, 0), (38, .iload_n 3, 0, 0), (39, .if_icmp .ne 7, 46, 0), (42, .iconst 0, 0, 0), (43, .goto 20, 63, 0), (46, .aload_n 0, 0, 0), (47, .getfield 35, 7, 1), (50, .iload_n 2, 0, 0), (51, .aaload, 0, 0), (52, .iload_n 3, 0, 0), (53, .baload, 0, 0), (54, .ifCond .eq 7, 61, 0), (57, .iconst 1, 0, 0), (58, .goto 5, 63, 0), (61, .bipush 99, 0, 0), (63, .iastore, 0, 0), (64, .iinc 3 1, 0, 0), (67, .goto (-42), 25, 0), (70, .iinc 2 1, 0, 0), (73, .goto (-58), 15, 0), (76, .iconst 0, 0, 0), (77, .istore_n 2, 0, 0), (78, .iload_n 2, 0, 0), (79, .aload_n 0, 0, 0), (80, .getfield 30, 7, 0), (83, .if_icmp .ge 70, 153, 0), (86, .iconst 0, 0, 0), (87, .istore_n 3, 0, 0), (88, .iload_n 3, 0, 0), (89, .aload_n 0, 0, 0), (90, .getfield 30, 7, 0), (93, .if_icmp .ge 54, 147, 0), (96, .iconst 0, 0, 0), (97, .istore 4, 0, 0), (99, .iload 4, 0, 0), (101, .aload_n 0, 0, 0), (102, .getfield 30, 7, 0), (105, .if_icmp .ge 36, 141, 0)]
def am_e306_1 : List AEn := [(108, .aload_n 1, 0, 0), (109, .iload_n 3, 0, 0), (110, .aaload, 0, 0), (111, .iload 4, 0, 0), (113, .aload_n 1, 0, 0), (114, .iload_n 3, 0, 0), (115, .aaload, 0, 0), (116, .iload 4, 0, 0), (118, .iaload, 0, 0), (119, .aload_n 1, 0, 0), (120, .iload_n 3, 0, 0), (121, .aaload, 0, 0), (122, .iload_n 2, 0, 0), (123, .iaload, 0, 0), (124, .aload_n 1, 0, 0), (125, .iload_n 2, 0, 0), (126, .aaload, 0, 0), (127, .iload 4, 0, 0), (129, .iaload, 0, 0), (130, .iadd, 0, 0), (131, .invokestatic 77, 903, 2), (134, .iastore, 0, 0), (135, .iinc 4 1, 0, 0), (138, .goto (-39), 99, 0), (141, .iinc 3 1, 0, 0), (144, .goto (-56), 88, 0), (147, .iinc 2 1, 0, 0), (150, .goto (-72), 78, 0), (153, .aload_n 1, 0, 0), (154, .areturn, 0, 0)]
def am_M306 : AMe := (⟨"PebbleProofsLaw$Yard", "distances", "()[[I"⟩, prog_9_method_5_code, 5, 0, (some (.array (.array .int))), [], am_e306_0 ++ (am_e306_1))
def am_e307_0 : List AEn := [(0, .aload_n 0, 0, 0), (1, .invokevirtual 83, 306, 1), (4, .iconst 0, 0, 0), (5, .aaload, 0, 0), (6, .astore_n 1, 0, 0), (7, .aload_n 1, 0, 0), (8, .arraylength, 0, 0), (9, .istore_n 2, 0, 0), (10, .iconst 0, 0, 0), (11, .istore_n 3, 0, 0), (12, .iload_n 3, 0, 0), (13, .iload_n 2, 0, 0), (14, .if_icmp .ge 23, 37, 0), (17, .aload_n 1, 0, 0), (18, .iload_n 3, 0, 0), (19, .iaload, 0, 0), (20, .istore 4, 0, 0), (22, .iload 4, 0, 0), (24, .bipush 99, 0, 0), (26, .if_icmp .lt 5, 31, 0), (29, .iconst 0, 0, 0), (30, .ireturn, 0, 0), (31, .iinc 3 1, 0, 0), (34, .goto (-22), 12, 0), (37, .iconst 1, 0, 0), (38, .ireturn, 0, 0)]
def am_M307 : AMe := (⟨"PebbleProofsLaw$Yard", "isConnected", "()Z"⟩, prog_9_method_6_code, 5, 0, (some .boolean), [], am_e307_0)
def am_e308_0 : List AEn := [(0, .new 13, 7, 0), (3, .dup, 0, 0), (4, .iconst 3, 0, 0), (5, .invokespecial 41, 302, 2), (8, .astore_n 0, 0, 0), (9, .aload_n 0, 0, 0), (10, .iconst 0, 0, 0), (11, .iconst 1, 0, 0), (12, .invokevirtual 87, 304, 3), (15, .aload_n 0, 0, 0), (16, .iconst 1, 0, 0), (17, .iconst 2, 0, 0), (18, .invokevirtual 87, 304, 3), (21, .aload_n 0, 0, 0), (22, .getfield 38, 7, 2), (25, .iconst 0, 0, 0), (26, .iconst 4, 0, 0), (27, .iastore, 0, 0), (28, .aload_n 0, 0, 0), (29, .areturn, 0, 0)]
def am_M308 : AMe := (⟨"PebbleProofsLaw$Yard", "plain", "()LPebbleProofsLaw$Yard;"⟩, prog_9_method_7_code, 1, 0, (some (.object "PebbleProofsLaw$Yard")), [], am_e308_0)
def am_e309_0 : List AEn := [(0, .aload_n 0, 0, 0), (1, .iconst 0, 0, 0), (2, .ldc 91, 0, 1000000000), (4, .invokestatic 92, 366, 3), (7, .istore_n 1, 0, 0), (8, .new 13, 7, 0), (11, .dup, 0, 0), (12, .iconst 1, 0, 0), (13, .iload_n 1, 0, 0), (14, .bipush 6, 0, 0), (16, .irem, 0, 0), (17, .iadd, 0, 0), (18, .invokespecial 41, 302, 2), (21, .astore_n 2, 0, 0), (22, .iconst 1, 0, 0), (23, .istore_n 3, 0, 0), (24, .iload_n 3, 0, 0), (25, .aload_n 2, 0, 0), (26, .getfield 30, 7, 0), (29, .if_icmp .ge 32, 61, 0), (32, .aload_n 2, 0, 0), (33, .iload_n 3, 0, 0), (34, .iload_n 1, 0, 0), (35, .iconst 3, 0, 0), (36, .irem, 0, 0), (37, .ifCond .ne 9, 46, 0), (40, .iload_n 3, 0, 0), (41, .iconst 1, 0, 0), (42, .isub, 0, 0), (43, .goto 9, 52, 0), (46, .aload_n 0, 0, 0), (47, .iload_n 3, 0, 0), (48, .iload_n 3, 0, 0), (49, .invokestatic 92, 366, 3), (52, .invokevirtual 87, 304, 3), (55, .iinc 3 1, 0, 0), (58, .goto (-34), 24, 0), (61, .iconst 0, 0, 0), (62, .istore_n 3, 0, 0), (63, .iload_n 3, 0, 0), (64, .aload_n 2, 0, 0), (65, .getfield 30, 7, 0), (68, .if_icmp .ge 83, 151, 0), (71, .iconst 0, 0, 0), (72, .istore 4, 0, 0), (74, .iload 4, 0, 0), (76, .iload_n 3, 0, 0), (77, .if_icmp .ge 68, 145, 0), (80, .aload_n 2, 0, 0), (81, .getfield 35, 7, 1), (84, .iload_n 3, 0, 0), (85, .aaload, 0, 0), (86, .iload 4, 0, 0), (88, .baload, 0, 0), (89, .ifCond .ne 50, 139, 0), (92, .aload_n 2, 0, 0), (93, .getfield 30, 7, 0), (96, .iconst 5, 0, 0), (97, .if_icmp .gt 18, 115, 0), (100, .aload_n 0, 0, 0)]
def am_e309_1 : List AEn := [(101, .bipush 6, 0, 0), (103, .iload_n 3, 0, 0), (104, .iadd, 0, 0), (105, .iload 4, 0, 0), (107, .iadd, 0, 0), (108, .iconst 4, 0, 0), (109, .invokestatic 92, 366, 3), (112, .ifCond .ne 27, 139, 0), (115, .aload_n 0, 0, 0), (116, .bipush 7, 0, 0), (118, .iconst 2, 0, 0), (119, .iload_n 3, 0, 0), (120, .imul, 0, 0), (121, .iadd, 0, 0), (122, .iload 4, 0, 0), (124, .iadd, 0, 0), (125, .iconst 3, 0, 0), (126, .invokestatic 92, 366, 3), (129, .ifCond .ne 10, 139, 0), (132, .aload_n 2, 0, 0), (133, .iload_n 3, 0, 0), (134, .iload 4, 0, 0), (136, .invokevirtual 87, 304, 3), (139, .iinc 4 1, 0, 0), (142, .goto (-68), 74, 0), (145, .iinc 3 1, 0, 0), (148, .goto (-85), 63, 0), (151, .iconst 0, 0, 0), (152, .istore_n 3, 0, 0), (153, .iload_n 3, 0, 0), (154, .aload_n 2, 0, 0), (155, .getfield 30, 7, 0), (158, .if_icmp .ge 35, 193, 0), (161, .aload_n 2, 0, 0), (162, .getfield 38, 7, 2), (165, .iload_n 3, 0, 0), (166, .aload_n 0, 0, 0), (167, .bipush 18, 0, 0), (169, .iload_n 3, 0, 0), (170, .iadd, 0, 0), (171, .iload_n 3, 0, 0), (172, .iconst 3, 0, 0), (173, .irem, 0, 0), (174, .ifCond .ne 8, 182, 0), (177, .bipush 9, 0, 0), (179, .goto 4, 183, 0), (182, .iconst 4, 0, 0), (183, .invokestatic 92, 366, 3), (186, .iastore, 0, 0), (187, .iinc 3 1, 0, 0), (190, .goto (-37), 153, 0), (193, .iconst 0, 0, 0), (194, .istore_n 3, 0, 0), (195, .iload_n 3, 0, 0), (196, .iload_n 1, 0, 0), (197, .bipush 18, 0, 0), (199, .idiv, 0, 0), (200, .iconst 4, 0, 0), (201, .irem, 0, 0), (202, .if_icmp .ge 195, 397, 0)]
def am_e309_2 : List AEn := [(205, .aload_n 0, 0, 0), (206, .bipush 24, 0, 0), (208, .iload_n 3, 0, 0), (209, .iadd, 0, 0), (210, .aload_n 2, 0, 0), (211, .getfield 30, 7, 0), (214, .invokestatic 92, 366, 3), (217, .istore 4, 0, 0), (219, .bipush 13, 0, 0), (221, .newarray .int, 0, 0), (223, .astore 5, 0, 0), (225, .aload 5, 0, 0), (227, .iconst 0, 0, 0), (228, .iload 4, 0, 0), (230, .iastore, 0, 0), (231, .iconst 0, 0, 0), (232, .istore 6, 0, 0), (234, .iload 6, 0, 0), (236, .bipush 6, 0, 0), (238, .if_icmp .ge 18, 256, 0), (241, .aload 5, 0, 0), (243, .bipush 7, 0, 0), (245, .iload 6, 0, 0), (247, .iadd, 0, 0), (248, .iconst (-1), 0, 0), (249, .iastore, 0, 0), (250, .iinc 6 1, 0, 0), (253, .goto (-19), 234, 0), (256, .iconst 0, 0, 0), (257, .istore 6, 0, 0), (259, .iload 6, 0, 0), (261, .aload_n 2, 0, 0), (262, .getfield 30, 7, 0), (265, .if_icmp .ge 116, 381, 0), (268, .aload_n 0, 0, 0), (269, .bipush 26, 0, 0), (271, .iload_n 3, 0, 0), (272, .iadd, 0, 0), (273, .iload 6, 0, 0), (275, .iadd, 0, 0), (276, .ldc 96, 0, 1000000), (278, .invokestatic 92, 366, 3), (281, .istore 7, 0, 0), (283, .iload 6, 0, 0), (285, .iload 4, 0, 0), (287, .if_icmp .eq 88, 375, 0), (290, .iload 7, 0, 0), (292, .iconst 4, 0, 0), (293, .irem, 0, 0), (294, .ifCond .ne 6, 300, 0), (297, .goto 78, 375, 0), (300, .aload 5, 0, 0), (302, .iconst 1, 0, 0), (303, .iload 6, 0, 0), (305, .iadd, 0, 0), (306, .aload_n 2, 0, 0), (307, .getfield 35, 7, 1), (310, .iload 6, 0, 0), (312, .aaload, 0, 0), (313, .iload 4, 0, 0)]
def am_e309_3 : List AEn := [(315, .baload, 0, 0), (316, .ifCond .eq 14, 330, 0), (319, .iconst 1, 0, 0), (320, .iconst 4, 0, 0), (321, .iload 7, 0, 0), (323, .iconst 3, 0, 0), (324, .irem, 0, 0), (325, .iadd, 0, 0), (326, .ishl, 0, 0), (327, .goto 11, 338, 0), (330, .iload 7, 0, 0), (332, .bipush 7, 0, 0), (334, .idiv, 0, 0), (335, .bipush 12, 0, 0), (337, .irem, 0, 0), (338, .iastore, 0, 0), (339, .aload 5, 0, 0), (341, .bipush 7, 0, 0), (343, .iload 6, 0, 0), (345, .iadd, 0, 0), (346, .aload_n 2, 0, 0), (347, .getfield 35, 7, 1), (350, .iload 6, 0, 0), (352, .aaload, 0, 0), (353, .iload 4, 0, 0), (355, .baload, 0, 0), (356, .ifCond .eq 8, 364, 0), (359, .iload 4, 0, 0), (361, .goto 13, 374, 0), (364, .iload 7, 0, 0), (366, .bipush 90, 0, 0), (368, .idiv, 0, 0), (369, .aload_n 2, 0, 0), (370, .getfield 30, 7, 0), (373, .irem, 0, 0), (374, .iastore, 0, 0), (375, .iinc 6 1, 0, 0), (378, .goto (-119), 259, 0), (381, .aload_n 2, 0, 0), (382, .getfield 12, 7, 4), (385, .aload 5, 0, 0), (387, .invokevirtual 71, 354, 2), (390, .pop, 0, 0), (391, .iinc 3 1, 0, 0), (394, .goto (-199), 195, 0), (397, .aload_n 2, 0, 0), (398, .areturn, 0, 0)]
def am_M309 : AMe := (⟨"PebbleProofsLaw$Yard", "drawn", "([I)LPebbleProofsLaw$Yard;"⟩, prog_9_method_8_code, 8, 1, (some (.object "PebbleProofsLaw$Yard")), [], am_e309_0 ++ (am_e309_1 ++ (am_e309_2 ++ (am_e309_3))))
def am_e310_0 : List AEn := [(0, .new 97, 9, 0), (3, .dup, 0, 0), (4, .new 97, 9, 0), (7, .dup, 0, 0), (8, .invokespecial 99, 331, 1), (11, .ldc 100, 1, 23), (13, .invokevirtual 102, 333, 2), (16, .aload_n 0, 0, 0), (17, .getfield 30, 7, 0), (20, .invokevirtual 106, 335, 2), (23, .invokevirtual 109, 336, 1), (26, .invokespecial 113, 332, 2), (29, .astore_n 1, 0, 0), (30, .iconst 0, 0, 0), (31, .istore_n 2, 0, 0), (32, .iload_n 2, 0, 0), (33, .aload_n 0, 0, 0), (34, .getfield 30, 7, 0), (37, .if_icmp .ge 53, 90, 0), (40, .iconst 0, 0, 0), (41, .istore_n 3, 0, 0), (42, .iload_n 3, 0, 0), (43, .iload_n 2, 0, 0), (44, .if_icmp .ge 40, 84, 0), (47, .aload_n 0, 0, 0), (48, .getfield 35, 7, 1), (51, .iload_n 2, 0, 0), (52, .aaload, 0, 0), (53, .iload_n 3, 0, 0), (54, .baload, 0, 0), (55, .ifCond .eq 23, 78, 0), (58, .aload_n 1, 0, 0), (59, .ldc 116, 1, 24), (61, .invokevirtual 102, 333, 2), (64, .iload_n 2, 0, 0), (65, .invokevirtual 106, 335, 2), (68, .bipush 32, 0, 0), (70, .invokevirtual 118, 334, 2), (73, .iload_n 3, 0, 0), (74, .invokevirtual 106, 335, 2), (77, .pop, 0, 0), (78, .iinc 3 1, 0, 0), (81, .goto (-39), 42, 0), (84, .iinc 2 1, 0, 0), (87, .goto (-55), 32, 0), (90, .iconst 0, 0, 0), (91, .istore_n 2, 0, 0), (92, .iload_n 2, 0, 0), (93, .aload_n 0, 0, 0), (94, .getfield 30, 7, 0), (97, .if_icmp .ge 43, 140, 0), (100, .aload_n 0, 0, 0), (101, .getfield 38, 7, 2), (104, .iload_n 2, 0, 0), (105, .iaload, 0, 0), (106, .ifCond .le 28, 134, 0), (109, .aload_n 1, 0, 0), (110, .ldc 121, 1, 25), (112, .invokevirtual 102, 333, 2), (115, .iload_n 2, 0, 0)]
def am_e310_1 : List AEn := [(116, .invokevirtual 106, 335, 2), (119, .bipush 32, 0, 0), (121, .invokevirtual 118, 334, 2), (124, .aload_n 0, 0, 0), (125, .getfield 38, 7, 2), (128, .iload_n 2, 0, 0), (129, .iaload, 0, 0), (130, .invokevirtual 106, 335, 2), (133, .pop, 0, 0), (134, .iinc 2 1, 0, 0), (137, .goto (-45), 92, 0), (140, .aload_n 0, 0, 0), (141, .getfield 12, 7, 4), (144, .invokevirtual 53, 358, 1), (147, .astore_n 2, 0, 0), (148, .aload_n 2, 0, 0), (149, .invokeinterface 57 1, 343, 1), (154, .ifCond .eq 99, 253, 0), (157, .aload_n 2, 0, 0), (158, .invokeinterface 63 1, 344, 1), (163, .checkcast 67, 100, 0), (166, .astore_n 3, 0, 0), (167, .aload_n 1, 0, 0), (168, .ldc 123, 1, 26), (170, .invokevirtual 102, 333, 2), (173, .aload_n 3, 0, 0), (174, .iconst 0, 0, 0), (175, .iaload, 0, 0), (176, .invokevirtual 106, 335, 2), (179, .pop, 0, 0), (180, .iconst 0, 0, 0), (181, .istore 4, 0, 0), (183, .iload 4, 0, 0), (185, .aload_n 0, 0, 0), (186, .getfield 30, 7, 0), (189, .if_icmp .ge 61, 250, 0), (192, .aload_n 3, 0, 0), (193, .bipush 7, 0, 0), (195, .iload 4, 0, 0), (197, .iadd, 0, 0), (198, .iaload, 0, 0), (199, .iconst (-1), 0, 0), (200, .if_icmp .eq 44, 244, 0), (203, .aload_n 1, 0, 0), (204, .bipush 32, 0, 0), (206, .invokevirtual 118, 334, 2), (209, .iload 4, 0, 0), (211, .invokevirtual 106, 335, 2), (214, .bipush 32, 0, 0), (216, .invokevirtual 118, 334, 2), (219, .aload_n 3, 0, 0), (220, .bipush 7, 0, 0), (222, .iload 4, 0, 0), (224, .iadd, 0, 0), (225, .iaload, 0, 0), (226, .invokevirtual 106, 335, 2), (229, .bipush 32, 0, 0), (231, .invokevirtual 118, 334, 2), (234, .aload_n 3, 0, 0), (235, .iconst 1, 0, 0)]
def am_e310_2 : List AEn := [(236, .iload 4, 0, 0), (238, .iadd, 0, 0), (239, .iaload, 0, 0), (240, .invokevirtual 106, 335, 2), (243, .pop, 0, 0), (244, .iinc 4 1, 0, 0), (247, .goto (-64), 183, 0), (250, .goto (-102), 148, 0), (253, .aload_n 1, 0, 0), (254, .invokevirtual 109, 336, 1), (257, .areturn, 0, 0)]
def am_M310 : AMe := (⟨"PebbleProofsLaw$Yard", "text", "()Ljava/lang/String;"⟩, prog_9_method_9_code, 5, 0, (some (.object "java/lang/String")), [], am_e310_0 ++ (am_e310_1 ++ (am_e310_2)))
def am_e311_0 : List AEn := [(0, .iconst 0, 0, 0), (1, .istore 4, 0, 0), (3, .iconst 0, 0, 0), (4, .istore 5, 0, 0), (6, .iload 5, 0, 0), (8, .aload_n 0, 0, 0), (9, .getfield 30, 7, 0), (12, .if_icmp .ge 38, 50, 0), (15, .aload_n 1, 0, 0), (16, .iload 5, 0, 0), (18, .iaload, 0, 0), (19, .iconst 1, 0, 0), (20, .aload_n 2, 0, 0), (21, .iload 5, 0, 0), (23, .iaload, 0, 0), (24, .ishl, 0, 0), (25, .if_icmp .lt 5, 30, 0), (28, .iconst 1, 0, 0), (29, .ireturn, 0, 0), (30, .iload 4, 0, 0), (32, .aload_n 2, 0, 0), (33, .iload 5, 0, 0), (35, .iaload, 0, 0), (36, .ishl, 0, 0), (37, .aload_n 1, 0, 0), (38, .iload 5, 0, 0), (40, .iaload, 0, 0), (41, .iadd, 0, 0), (42, .istore 4, 0, 0), (44, .iinc 5 1, 0, 0), (47, .goto (-41), 6, 0), (50, .aload_n 0, 0, 0), (51, .getfield 18, 7, 5), (54, .iload 4, 0, 0), (56, .baload, 0, 0), (57, .ifCond .eq 20, 77, 0), (60, .aload_n 0, 0, 0), (61, .getfield 18, 7, 5), (64, .iload 4, 0, 0), (66, .baload, 0, 0), (67, .iconst 1, 0, 0), (68, .if_icmp .ne 7, 75, 0), (71, .iconst 1, 0, 0), (72, .goto 4, 76, 0), (75, .iconst 0, 0, 0), (76, .ireturn, 0, 0), (77, .iconst 0, 0, 0), (78, .istore 5, 0, 0), (80, .iconst 0, 0, 0), (81, .istore 6, 0, 0), (83, .iload 6, 0, 0), (85, .aload_n 0, 0, 0), (86, .getfield 30, 7, 0), (89, .if_icmp .ge 115, 204, 0), (92, .iload 5, 0, 0), (94, .ifCond .ne 110, 204, 0), (97, .iconst 0, 0, 0), (98, .istore 7, 0, 0), (100, .iload 7, 0, 0), (102, .aload_n 0, 0, 0)]
def am_e311_1 : List AEn := [(103, .getfield 30, 7, 0), (106, .if_icmp .ge 92, 198, 0), (109, .aload_n 1, 0, 0), (110, .iload 6, 0, 0), (112, .iaload, 0, 0), (113, .iconst 1, 0, 0), (114, .if_icmp .le 84, 198, 0), (117, .iload 5, 0, 0), (119, .ifCond .ne 79, 198, 0), (122, .aload_n 0, 0, 0), (123, .getfield 35, 7, 1), (126, .iload 6, 0, 0), (128, .aaload, 0, 0), (129, .iload 7, 0, 0), (131, .baload, 0, 0), (132, .ifCond .eq 60, 192, 0), (135, .aload_n 2, 0, 0), (136, .iload 7, 0, 0), (138, .iaload, 0, 0), (139, .aload_n 2, 0, 0), (140, .iload 6, 0, 0), (142, .iaload, 0, 0), (143, .iconst 1, 0, 0), (144, .iadd, 0, 0), (145, .if_icmp .le 6, 151, 0), (148, .goto 44, 192, 0), (151, .aload_n 1, 0, 0), (152, .iload 6, 0, 0), (154, .dup2, 0, 0), (155, .iaload, 0, 0), (156, .iconst 2, 0, 0), (157, .isub, 0, 0), (158, .iastore, 0, 0), (159, .aload_n 1, 0, 0), (160, .iload 7, 0, 0), (162, .dup2, 0, 0), (163, .iaload, 0, 0), (164, .iconst 1, 0, 0), (165, .iadd, 0, 0), (166, .iastore, 0, 0), (167, .aload_n 0, 0, 0), (168, .aload_n 1, 0, 0), (169, .aload_n 2, 0, 0), (170, .iload_n 3, 0, 0), (171, .invokevirtual 125, 311, 4), (174, .istore 5, 0, 0), (176, .aload_n 1, 0, 0), (177, .iload 6, 0, 0), (179, .dup2, 0, 0), (180, .iaload, 0, 0), (181, .iconst 2, 0, 0), (182, .iadd, 0, 0), (183, .iastore, 0, 0), (184, .aload_n 1, 0, 0), (185, .iload 7, 0, 0), (187, .dup2, 0, 0), (188, .iaload, 0, 0), (189, .iconst 1, 0, 0), (190, .isub, 0, 0), (191, .iastore, 0, 0)]
def am_e311_2 : List AEn := [(192, .iinc 7 1, 0, 0), (195, .goto (-95), 100, 0), (198, .iinc 6 1, 0, 0), (201, .goto (-118), 83, 0), (204, .aload_n 0, 0, 0), (205, .getfield 18, 7, 5), (208, .iload 4, 0, 0), (210, .iload 5, 0, 0), (212, .ifCond .eq 7, 219, 0), (215, .iconst 1, 0, 0), (216, .goto 4, 220, 0), (219, .iconst 2, 0, 0), (220, .i2b, 0, 0), (221, .bastore, 0, 0), (222, .iload 5, 0, 0), (224, .ireturn, 0, 0)]
def am_M311 : AMe := (⟨"PebbleProofsLaw$Yard", "reaches", "([I[II)Z"⟩, prog_9_method_10_code, 8, 3, (some .boolean), [], am_e311_0 ++ (am_e311_1 ++ (am_e311_2)))
def am_e312_0 : List AEn := [(0, .aload_n 0, 0, 0), (1, .getfield 22, 7, 6), (4, .iload_n 1, 0, 0), (5, .if_icmp .ne 4, 9, 0), (8, .return_, 0, 0), (9, .aload_n 0, 0, 0), (10, .aload_n 0, 0, 0), (11, .invokevirtual 83, 306, 1), (14, .iload_n 1, 0, 0), (15, .aaload, 0, 0), (16, .putfield 26, 7, 7), (19, .iconst 0, 0, 0), (20, .istore_n 2, 0, 0), (21, .aload_n 0, 0, 0), (22, .getfield 26, 7, 7), (25, .astore_n 3, 0, 0), (26, .aload_n 3, 0, 0), (27, .arraylength, 0, 0), (28, .istore 4, 0, 0), (30, .iconst 0, 0, 0), (31, .istore 5, 0, 0), (33, .iload 5, 0, 0), (35, .iload 4, 0, 0), (37, .if_icmp .ge 20, 57, 0), (40, .aload_n 3, 0, 0), (41, .iload 5, 0, 0), (43, .iaload, 0, 0), (44, .istore 6, 0, 0), (46, .iload_n 2, 0, 0), (47, .iload 6, 0, 0), (49, .iadd, 0, 0), (50, .istore_n 2, 0, 0), (51, .iinc 5 1, 0, 0), (54, .goto (-21), 33, 0), (57, .aload_n 0, 0, 0), (58, .iconst 1, 0, 0), (59, .iload_n 2, 0, 0), (60, .ishl, 0, 0), (61, .newarray .byte, 0, 0), (63, .putfield 18, 7, 5), (66, .aload_n 0, 0, 0), (67, .iload_n 1, 0, 0), (68, .putfield 22, 7, 6), (71, .return_, 0, 0)]
def am_M312 : AMe := (⟨"PebbleProofsLaw$Yard", "aim", "(I)V"⟩, prog_9_method_11_code, 7, 1, none, [], am_e312_0)
def am_e313_0 : List AEn := [(0, .aload_n 0, 0, 0), (1, .iload_n 1, 0, 0), (2, .invokevirtual 129, 312, 2), (5, .aload_n 0, 0, 0), (6, .aload_n 0, 0, 0), (7, .getfield 38, 7, 2), (10, .invokevirtual 68, 904, 1), (13, .checkcast 67, 100, 0), (16, .aload_n 0, 0, 0), (17, .getfield 26, 7, 7), (20, .iload_n 1, 0, 0), (21, .invokevirtual 125, 311, 4), (24, .ireturn, 0, 0)]
def am_M313 : AMe := (⟨"PebbleProofsLaw$Yard", "reaches", "(I)Z"⟩, prog_9_method_12_code, 2, 1, (some .boolean), [], am_e313_0)
def am_e314_0 : List AEn := [(0, .iconst 0, 0, 0), (1, .istore_n 2, 0, 0), (2, .iload_n 2, 0, 0), (3, .aload_n 0, 0, 0), (4, .getfield 30, 7, 0), (7, .if_icmp .ge 120, 127, 0), (10, .iconst 0, 0, 0), (11, .istore_n 3, 0, 0), (12, .iload_n 3, 0, 0), (13, .aload_n 0, 0, 0), (14, .getfield 30, 7, 0), (17, .if_icmp .ge 104, 121, 0), (20, .aload_n 0, 0, 0), (21, .getfield 35, 7, 1), (24, .iload_n 2, 0, 0), (25, .aaload, 0, 0), (26, .iload_n 3, 0, 0), (27, .baload, 0, 0), (28, .ifCond .eq 87, 115, 0), (31, .aload_n 0, 0, 0), (32, .getfield 38, 7, 2), (35, .iload_n 2, 0, 0), (36, .iaload, 0, 0), (37, .iconst 2, 0, 0), (38, .if_icmp .lt 77, 115, 0), (41, .aload_n 0, 0, 0), (42, .getfield 38, 7, 2), (45, .iload_n 3, 0, 0), (46, .iaload, 0, 0), (47, .sipush 999, 0, 0), (50, .if_icmp .ne 6, 56, 0), (53, .goto 62, 115, 0), (56, .aload_n 0, 0, 0), (57, .getfield 38, 7, 2), (60, .iload_n 2, 0, 0), (61, .dup2, 0, 0), (62, .iaload, 0, 0), (63, .iconst 2, 0, 0), (64, .isub, 0, 0), (65, .iastore, 0, 0), (66, .aload_n 0, 0, 0), (67, .getfield 38, 7, 2), (70, .iload_n 3, 0, 0), (71, .dup2, 0, 0), (72, .iaload, 0, 0), (73, .iconst 1, 0, 0), (74, .iadd, 0, 0), (75, .iastore, 0, 0), (76, .aload_n 0, 0, 0), (77, .iload_n 1, 0, 0), (78, .invokevirtual 132, 313, 2), (81, .istore 4, 0, 0), (83, .aload_n 0, 0, 0), (84, .getfield 38, 7, 2), (87, .iload_n 2, 0, 0), (88, .dup2, 0, 0), (89, .iaload, 0, 0), (90, .iconst 2, 0, 0), (91, .iadd, 0, 0), (92, .iastore, 0, 0)]
def am_e314_1 : List AEn := [(93, .aload_n 0, 0, 0), (94, .getfield 38, 7, 2), (97, .iload_n 3, 0, 0), (98, .dup2, 0, 0), (99, .iaload, 0, 0), (100, .iconst 1, 0, 0), (101, .isub, 0, 0), (102, .iastore, 0, 0), (103, .iload 4, 0, 0), (105, .ifCond .eq 10, 115, 0), (108, .bipush 10, 0, 0), (110, .iload_n 2, 0, 0), (111, .imul, 0, 0), (112, .iload_n 3, 0, 0), (113, .iadd, 0, 0), (114, .ireturn, 0, 0), (115, .iinc 3 1, 0, 0), (118, .goto (-106), 12, 0), (121, .iinc 2 1, 0, 0), (124, .goto (-122), 2, 0), (127, .ldc 135, 0, 3294967292), (129, .ireturn, 0, 0)]
def am_M314 : AMe := (⟨"PebbleProofsLaw$Yard", "next", "(I)I"⟩, prog_9_method_13_code, 5, 1, (some .int), [], am_e314_0 ++ (am_e314_1))
def am_e315_0 : List AEn := [(0, .aload_n 0, 0, 0), (1, .getfield 38, 7, 2), (4, .iload_n 1, 0, 0), (5, .dup2, 0, 0), (6, .iaload, 0, 0), (7, .iconst 2, 0, 0), (8, .isub, 0, 0), (9, .iastore, 0, 0), (10, .aload_n 0, 0, 0), (11, .getfield 38, 7, 2), (14, .iload_n 2, 0, 0), (15, .dup2, 0, 0), (16, .iaload, 0, 0), (17, .iconst 1, 0, 0), (18, .iadd, 0, 0), (19, .iastore, 0, 0), (20, .aload_n 0, 0, 0), (21, .dup, 0, 0), (22, .getfield 50, 7, 3), (25, .iconst 1, 0, 0), (26, .iadd, 0, 0), (27, .putfield 50, 7, 3), (30, .return_, 0, 0)]
def am_M315 : AMe := (⟨"PebbleProofsLaw$Yard", "move", "(II)V"⟩, prog_9_method_14_code, 3, 2, none, [], am_e315_0)
def am_e316_0 : List AEn := [(0, .iconst 0, 0, 0), (1, .istore_n 1, 0, 0), (2, .aload_n 0, 0, 0), (3, .getfield 38, 7, 2), (6, .astore_n 2, 0, 0), (7, .aload_n 2, 0, 0), (8, .arraylength, 0, 0), (9, .istore_n 3, 0, 0), (10, .iconst 0, 0, 0), (11, .istore 4, 0, 0), (13, .iload 4, 0, 0), (15, .iload_n 3, 0, 0), (16, .if_icmp .ge 20, 36, 0), (19, .aload_n 2, 0, 0), (20, .iload 4, 0, 0), (22, .iaload, 0, 0), (23, .istore 5, 0, 0), (25, .iload_n 1, 0, 0), (26, .iload 5, 0, 0), (28, .iadd, 0, 0), (29, .istore_n 1, 0, 0), (30, .iinc 4 1, 0, 0), (33, .goto (-20), 13, 0), (36, .iload_n 1, 0, 0), (37, .ireturn, 0, 0)]
def am_M316 : AMe := (⟨"PebbleProofsLaw$Yard", "all", "()I"⟩, prog_9_method_16_code, 6, 0, (some .int), [], am_e316_0)
def am_e317_0 : List AEn := [(0, .aload_n 0, 0, 0), (1, .invokevirtual 83, 306, 1), (4, .astore_n 2, 0, 0), (5, .iconst 0, 0, 0), (6, .istore_n 3, 0, 0), (7, .iconst 0, 0, 0), (8, .istore 4, 0, 0), (10, .iload 4, 0, 0), (12, .aload_n 0, 0, 0), (13, .getfield 30, 7, 0), (16, .if_icmp .ge 98, 114, 0), (19, .iconst 0, 0, 0), (20, .istore 5, 0, 0), (22, .iload 5, 0, 0), (24, .aload_n 0, 0, 0), (25, .getfield 30, 7, 0), (28, .if_icmp .ge 62, 90, 0), (31, .aload_n 1, 0, 0), (32, .iload 4, 0, 0), (34, .iload 5, 0, 0), (36, .invokevirtual 140, 99, 3), (39, .aload_n 0, 0, 0), (40, .getfield 35, 7, 1), (43, .iload 4, 0, 0), (45, .aaload, 0, 0), (46, .iload 5, 0, 0), (48, .baload, 0, 0), (49, .if_icmp .ne 21, 70, 0), (52, .aload_n 1, 0, 0), (53, .iload 4, 0, 0), (55, .iload 5, 0, 0), (57, .invokevirtual 146, 100, 3), (60, .aload_n 2, 0, 0), (61, .iload 4, 0, 0), (63, .aaload, 0, 0), (64, .iload 5, 0, 0), (66, .iaload, 0, 0), (67, .if_icmp .eq 5, 72, 0), (70, .iconst 0, 0, 0), (71, .ireturn, 0, 0), (72, .iload_n 3, 0, 0), (73, .aload_n 2, 0, 0), (74, .iload 4, 0, 0), (76, .aaload, 0, 0), (77, .iload 5, 0, 0), (79, .iaload, 0, 0), (80, .invokestatic 149, 902, 2), (83, .istore_n 3, 0, 0), (84, .iinc 5 1, 0, 0), (87, .goto (-65), 22, 0), (90, .aload_n 1, 0, 0), (91, .iload 4, 0, 0), (93, .invokevirtual 152, 102, 2), (96, .aload_n 0, 0, 0), (97, .getfield 38, 7, 2), (100, .iload 4, 0, 0), (102, .iaload, 0, 0), (103, .if_icmp .eq 5, 108, 0), (106, .iconst 0, 0, 0), (107, .ireturn, 0, 0)]
def am_e317_1 : List AEn := [(108, .iinc 4 1, 0, 0), (111, .goto (-101), 10, 0), (114, .bipush 6, 0, 0), (116, .newarray .int, 0, 0), (118, .dup, 0, 0), (119, .iconst 0, 0, 0), (120, .aload_n 0, 0, 0), (121, .getfield 30, 7, 0), (124, .iastore, 0, 0), (125, .dup, 0, 0), (126, .iconst 1, 0, 0), (127, .aload_n 0, 0, 0), (128, .invokevirtual 155, 305, 1), (131, .iastore, 0, 0), (132, .dup, 0, 0), (133, .iconst 2, 0, 0), (134, .aload_n 0, 0, 0), (135, .invokevirtual 159, 316, 1), (138, .iastore, 0, 0), (139, .dup, 0, 0), (140, .iconst 3, 0, 0), (141, .aload_n 0, 0, 0), (142, .getfield 50, 7, 3), (145, .iastore, 0, 0), (146, .dup, 0, 0), (147, .iconst 4, 0, 0), (148, .aload_n 0, 0, 0), (149, .getfield 12, 7, 4), (152, .invokevirtual 162, 349, 1), (155, .iastore, 0, 0), (156, .dup, 0, 0), (157, .iconst 5, 0, 0), (158, .iload_n 3, 0, 0), (159, .iastore, 0, 0), (160, .astore 4, 0, 0), (162, .iconst 0, 0, 0), (163, .istore 5, 0, 0), (165, .iload 5, 0, 0), (167, .bipush 6, 0, 0), (169, .if_icmp .ge 25, 194, 0), (172, .aload_n 1, 0, 0), (173, .iload 5, 0, 0), (175, .invokevirtual 165, 98, 2), (178, .aload 4, 0, 0), (180, .iload 5, 0, 0), (182, .iaload, 0, 0), (183, .if_icmp .eq 5, 188, 0), (186, .iconst 0, 0, 0), (187, .ireturn, 0, 0), (188, .iinc 5 1, 0, 0), (191, .goto (-26), 165, 0), (194, .iconst 0, 0, 0), (195, .istore 5, 0, 0), (197, .iload 5, 0, 0), (199, .aload_n 0, 0, 0), (200, .getfield 12, 7, 4), (203, .invokevirtual 162, 349, 1), (206, .if_icmp .ge 98, 304, 0), (209, .aload_n 0, 0, 0), (210, .getfield 12, 7, 4)]
def am_e317_2 : List AEn := [(213, .iload 5, 0, 0), (215, .invokevirtual 136, 352, 2), (218, .checkcast 67, 100, 0), (221, .astore 6, 0, 0), (223, .iconst 0, 0, 0), (224, .istore 7, 0, 0), (226, .iload 7, 0, 0), (228, .aload_n 0, 0, 0), (229, .getfield 30, 7, 0), (232, .if_icmp .ge 66, 298, 0), (235, .aload_n 1, 0, 0), (236, .iload 5, 0, 0), (238, .iload 7, 0, 0), (240, .iconst 0, 0, 0), (241, .invokevirtual 168, 115, 4), (244, .aload 6, 0, 0), (246, .iconst 0, 0, 0), (247, .iaload, 0, 0), (248, .if_icmp .ne 42, 290, 0), (251, .aload_n 1, 0, 0), (252, .iload 5, 0, 0), (254, .iload 7, 0, 0), (256, .iconst 1, 0, 0), (257, .invokevirtual 168, 115, 4), (260, .aload 6, 0, 0), (262, .iconst 1, 0, 0), (263, .iload 7, 0, 0), (265, .iadd, 0, 0), (266, .iaload, 0, 0), (267, .if_icmp .ne 23, 290, 0), (270, .aload_n 1, 0, 0), (271, .iload 5, 0, 0), (273, .iload 7, 0, 0), (275, .iconst 2, 0, 0), (276, .invokevirtual 168, 115, 4), (279, .aload 6, 0, 0), (281, .bipush 7, 0, 0), (283, .iload 7, 0, 0), (285, .iadd, 0, 0), (286, .iaload, 0, 0), (287, .if_icmp .eq 5, 292, 0), (290, .iconst 0, 0, 0), (291, .ireturn, 0, 0), (292, .iinc 7 1, 0, 0), (295, .goto (-69), 226, 0), (298, .iinc 5 1, 0, 0), (301, .goto (-104), 197, 0), (304, .iconst 1, 0, 0), (305, .ireturn, 0, 0)]
def am_M317 : AMe := (⟨"PebbleProofsLaw$Yard", "isAs", "(LPebbleProofs;)Z"⟩, prog_9_method_17_code, 8, 1, (some .boolean), [], am_e317_0 ++ (am_e317_1 ++ (am_e317_2)))
def am_e318_0 : List AEn := [(0, .aload_n 0, 0, 0), (1, .invokespecial 3, 901, 1), (4, .getstatic 18, 0, 0), (7, .ifCond .eq 18, 25, 0), (10, .aload_n 0, 0, 0), (11, .iload_n 1, 0, 0), (12, .newarray .byte, 0, 0), (14, .putfield 15, 9, 0), (17, .aload_n 0, 0, 0), (18, .iconst 0, 0, 0), (19, .putfield 22, 9, 1), (22, .goto 16, 38, 0), (25, .aload_n 0, 0, 0), (26, .iload_n 1, 0, 0), (27, .invokestatic 26, 999, 1), (30, .putfield 15, 9, 0), (33, .aload_n 0, 0, 0), (34, .iconst 1, 0, 0), (35, .putfield 22, 9, 1), (38, .return_, 0, 0)]
def am_M318 : AMe := (⟨"java/lang/AbstractStringBuilder", "<init>", "(I)V"⟩, prog_12_method_2_code, 2, 1, none, [], am_e318_0)
def am_e319_0 : List AEn := [(0, .aload_n 0, 0, 0), (1, .invokespecial 3, 901, 1), (4, .aload_n 1, 0, 0), (5, .invokevirtual 32, 255, 1), (8, .istore_n 2, 0, 0), (9, .iload_n 2, 0, 0), (10, .ldc 38, 0, 2147483631), (12, .if_icmp .ge 10, 22, 0), (15, .iload_n 2, 0, 0), (16, .bipush 16, 0, 0), (18, .iadd, 0, 0), (19, .goto 5, 24, 0), (22, .ldc 39, 0, 2147483647), (24, .istore_n 3, 0, 0), (25, .aload_n 1, 0, 0), (26, .invokevirtual 40, 257, 1), (29, .istore 4, 0, 0), (31, .aload_n 0, 0, 0), (32, .iload 4, 0, 0), (34, .putfield 22, 9, 1), (37, .aload_n 0, 0, 0), (38, .iload 4, 0, 0), (40, .ifCond .ne 9, 49, 0), (43, .iload_n 3, 0, 0), (44, .newarray .byte, 0, 0), (46, .goto 7, 53, 0), (49, .iload_n 3, 0, 0), (50, .invokestatic 26, 999, 1), (53, .putfield 15, 9, 0), (56, .aload_n 0, 0, 0), (57, .aload_n 1, 0, 0), (58, .invokevirtual 43, 337, 2), (61, .pop, 0, 0), (62, .return_, 0, 0)]
def am_M319 : AMe := (⟨"java/lang/AbstractStringBuilder", "<init>", "(Ljava/lang/String;)V"⟩, prog_12_method_3_code, 5, 1, none, [], am_e319_0)
def am_e320_0 : List AEn := [(0, .aload_n 0, 0, 0), (1, .getfield 15, 9, 0), (4, .arraylength, 0, 0), (5, .aload_n 0, 0, 0), (6, .getfield 22, 9, 1), (9, .ishr, 0, 0), (10, .istore_n 2, 0, 0), (11, .iload_n 1, 0, 0), (12, .iload_n 2, 0, 0), (13, .isub, 0, 0), (14, .ifCond .le 24, 38, 0), (17, .aload_n 0, 0, 0), (18, .aload_n 0, 0, 0), (19, .getfield 15, 9, 0), (22, .aload_n 0, 0, 0), (23, .iload_n 1, 0, 0), (24, .invokevirtual 104, 321, 2), (27, .aload_n 0, 0, 0), (28, .getfield 22, 9, 1), (31, .ishl, 0, 0), (32, .invokestatic 108, 359, 2), (35, .putfield 15, 9, 0), (38, .return_, 0, 0)]
def am_M320 : AMe := (⟨"java/lang/AbstractStringBuilder", "ensureCapacityInternal", "(I)V"⟩, prog_12_method_9_code, 3, 1, none, [], am_e320_0)
def am_e321_0 : List AEn := [(0, .aload_n 0, 0, 0), (1, .getfield 15, 9, 0), (4, .arraylength, 0, 0), (5, .istore_n 2, 0, 0), (6, .iload_n 1, 0, 0), (7, .aload_n 0, 0, 0), (8, .getfield 22, 9, 1), (11, .ishl, 0, 0), (12, .istore_n 3, 0, 0), (13, .iload_n 3, 0, 0), (14, .iload_n 2, 0, 0), (15, .isub, 0, 0), (16, .istore 4, 0, 0), (18, .iload_n 2, 0, 0), (19, .iload 4, 0, 0), (21, .iload_n 2, 0, 0), (22, .iconst 2, 0, 0), (23, .aload_n 0, 0, 0), (24, .getfield 22, 9, 1), (27, .ishl, 0, 0), (28, .iadd, 0, 0), (29, .invokestatic 114, 364, 3), (32, .istore 5, 0, 0), (34, .iload 5, 0, 0), (36, .ldc 39, 0, 2147483647), (38, .if_icmp .ne 13, 51, 0), (41, .new 120, 1001, 0), (44, .dup, 0, 0), (45, .ldc 122, 9, 0), (47, .invokespecial 124, 999, 0), (50, .athrow, 0, 0), (51, .iload 5, 0, 0), (53, .aload_n 0, 0, 0), (54, .getfield 22, 9, 1), (57, .ishr, 0, 0), (58, .ireturn, 0, 0)]
def am_M321 : AMe := (⟨"java/lang/AbstractStringBuilder", "newCapacity", "(I)I"⟩, prog_12_method_10_code, 6, 1, (some .int), [], am_e321_0)
def am_e322_0 : List AEn := [(0, .aload_n 0, 0, 0), (1, .getfield 15, 9, 0), (4, .areturn, 0, 0)]
def am_M322 : AMe := (⟨"java/lang/AbstractStringBuilder", "getValue", "()[B"⟩, prog_12_method_64_code, 1, 0, (some (.array .byte)), [], am_e322_0)
def am_e323_0 : List AEn := [(0, .getstatic 18, 0, 0), (3, .ifCond .eq 14, 17, 0), (6, .aload_n 0, 0, 0), (7, .getfield 22, 9, 1), (10, .ifCond .ne 7, 17, 0), (13, .iconst 1, 0, 0), (14, .goto 4, 18, 0), (17, .iconst 0, 0, 0), (18, .ireturn, 0, 0)]
def am_M323 : AMe := (⟨"java/lang/AbstractStringBuilder", "isLatin1", "()Z"⟩, prog_12_method_68_code, 1, 0, (some .boolean), [], am_e323_0)
def am_e324_0 : List AEn := [(0, .getstatic 18, 0, 0), (3, .ifCond .eq 18, 21, 0), (6, .aload_n 0, 0, 0), (7, .getfield 22, 9, 1), (10, .aload_n 1, 0, 0), (11, .invokevirtual 40, 257, 1), (14, .if_icmp .eq 7, 21, 0), (17, .aload_n 0, 0, 0), (18, .invokevirtual 195, 999, 1), (21, .return_, 0, 0)]
def am_M324 : AMe := (⟨"java/lang/AbstractStringBuilder", "inflateIfNeededFor", "(Ljava/lang/String;)V"⟩, prog_12_method_71_code, 2, 1, none, [], am_e324_0)
def am_e325_0 : List AEn := [(0, .aload_n 0, 0, 0), (1, .aload_n 2, 0, 0), (2, .invokevirtual 397, 324, 2), (5, .aload_n 2, 0, 0), (6, .aload_n 0, 0, 0), (7, .getfield 15, 9, 0), (10, .iload_n 1, 0, 0), (11, .aload_n 0, 0, 0), (12, .getfield 22, 9, 1), (15, .invokevirtual 399, 329, 4), (18, .return_, 0, 0)]
def am_M325 : AMe := (⟨"java/lang/AbstractStringBuilder", "putStringAt", "(ILjava/lang/String;)V"⟩, prog_12_method_73_code, 3, 2, none, [], am_e325_0)
def am_e326_0 : List AEn := [(0, .iload_n 1, 0, 0), (1, .istore 5, 0, 0), (3, .iload_n 0, 0, 0), (4, .ifCond .ge 7, 11, 0), (7, .iconst 1, 0, 0), (8, .goto 4, 12, 0), (11, .iconst 0, 0, 0), (12, .istore 6, 0, 0), (14, .iload 6, 0, 0), (16, .ifCond .ne 6, 22, 0), (19, .iload_n 0, 0, 0), (20, .ineg, 0, 0), (21, .istore_n 0, 0, 0), (22, .iload_n 0, 0, 0), (23, .bipush (-100), 0, 0), (25, .if_icmp .gt 47, 72, 0), (28, .iload_n 0, 0, 0), (29, .bipush 100, 0, 0), (31, .idiv, 0, 0), (32, .istore_n 3, 0, 0), (33, .iload_n 3, 0, 0), (34, .bipush 100, 0, 0), (36, .imul, 0, 0), (37, .iload_n 0, 0, 0), (38, .isub, 0, 0), (39, .istore 4, 0, 0), (41, .iload_n 3, 0, 0), (42, .istore_n 0, 0, 0), (43, .aload_n 2, 0, 0), (44, .iinc 5 (-1), 0, 0), (47, .iload 5, 0, 0), (49, .getstatic 83, 3, 0), (52, .iload 4, 0, 0), (54, .baload, 0, 0), (55, .bastore, 0, 0), (56, .aload_n 2, 0, 0), (57, .iinc 5 (-1), 0, 0), (60, .iload 5, 0, 0), (62, .getstatic 87, 4, 0), (65, .iload 4, 0, 0), (67, .baload, 0, 0), (68, .bastore, 0, 0), (69, .goto (-47), 22, 0), (72, .aload_n 2, 0, 0), (73, .iinc 5 (-1), 0, 0), (76, .iload 5, 0, 0), (78, .getstatic 83, 3, 0), (81, .iload_n 0, 0, 0), (82, .ineg, 0, 0), (83, .baload, 0, 0), (84, .bastore, 0, 0), (85, .iload_n 0, 0, 0), (86, .bipush (-9), 0, 0), (88, .if_icmp .ge 16, 104, 0), (91, .aload_n 2, 0, 0), (92, .iinc 5 (-1), 0, 0), (95, .iload 5, 0, 0), (97, .getstatic 87, 4, 0), (100, .iload_n 0, 0, 0), (101, .ineg, 0, 0)]
def am_e326_1 : List AEn := [(102, .baload, 0, 0), (103, .bastore, 0, 0), (104, .iload 6, 0, 0), (106, .ifCond .eq 12, 118, 0), (109, .aload_n 2, 0, 0), (110, .iinc 5 (-1), 0, 0), (113, .iload 5, 0, 0), (115, .bipush 45, 0, 0), (117, .bastore, 0, 0), (118, .iload 5, 0, 0), (120, .ireturn, 0, 0)]
def am_M326 : AMe := (⟨"java/lang/Integer", "getChars", "(II[B)I"⟩, prog_21_method_12_code, 7, 3, (some .int), [], am_e326_0 ++ (am_e326_1))
def am_e327_0 : List AEn := [(0, .iconst 1, 0, 0), (1, .istore_n 1, 0, 0), (2, .iload_n 0, 0, 0), (3, .ifCond .lt 8, 11, 0), (6, .iconst 0, 0, 0), (7, .istore_n 1, 0, 0), (8, .iload_n 0, 0, 0), (9, .ineg, 0, 0), (10, .istore_n 0, 0, 0), (11, .bipush (-10), 0, 0), (13, .istore_n 2, 0, 0), (14, .iconst 1, 0, 0), (15, .istore_n 3, 0, 0), (16, .iload_n 3, 0, 0), (17, .bipush 10, 0, 0), (19, .if_icmp .ge 23, 42, 0), (22, .iload_n 0, 0, 0), (23, .iload_n 2, 0, 0), (24, .if_icmp .le 7, 31, 0), (27, .iload_n 3, 0, 0), (28, .iload_n 1, 0, 0), (29, .iadd, 0, 0), (30, .ireturn, 0, 0), (31, .bipush 10, 0, 0), (33, .iload_n 2, 0, 0), (34, .imul, 0, 0), (35, .istore_n 2, 0, 0), (36, .iinc 3 1, 0, 0), (39, .goto (-23), 16, 0), (42, .bipush 10, 0, 0), (44, .iload_n 1, 0, 0), (45, .iadd, 0, 0), (46, .ireturn, 0, 0)]
def am_M327 : AMe := (⟨"java/lang/Integer", "stringSize", "(I)I"⟩, prog_21_method_13_code, 4, 1, (some .int), [], am_e327_0)
def am_e328_0 : List AEn := [(0, .aload_n 0, 0, 0), (1, .aload_n 1, 0, 0), (2, .aconst_null, 0, 0), (3, .invokespecial 489, 330, 3), (6, .return_, 0, 0)]
def am_M328 : AMe := (⟨"java/lang/String", "<init>", "(Ljava/lang/StringBuilder;)V"⟩, prog_27_method_53_code, 2, 1, none, [], am_e328_0)
def am_e329_0 : List AEn := [(0, .aload_n 0, 0, 0), (1, .invokevirtual 335, 257, 1), (4, .iload_n 3, 0, 0), (5, .if_icmp .ne 23, 28, 0), (8, .aload_n 0, 0, 0), (9, .getfield 9, 8, 0), (12, .iconst 0, 0, 0), (13, .aload_n 1, 0, 0), (14, .iload_n 2, 0, 0), (15, .iload_n 3, 0, 0), (16, .ishl, 0, 0), (17, .aload_n 0, 0, 0), (18, .getfield 9, 8, 0), (21, .arraylength, 0, 0), (22, .invokestatic 212, 900, 5), (25, .goto 18, 43, 0), (28, .aload_n 0, 0, 0), (29, .getfield 9, 8, 0), (32, .iconst 0, 0, 0), (33, .aload_n 1, 0, 0), (34, .iload_n 2, 0, 0), (35, .aload_n 0, 0, 0), (36, .getfield 9, 8, 0), (39, .arraylength, 0, 0), (40, .invokestatic 106, 999, 5), (43, .return_, 0, 0)]
def am_M329 : AMe := (⟨"java/lang/String", "getBytes", "([BIB)V"⟩, prog_27_method_147_code, 4, 3, none, [], am_e329_0)
def am_e330_0 : List AEn := [(0, .aload_n 0, 0, 0), (1, .invokespecial 1, 901, 1), (4, .aload_n 1, 0, 0), (5, .invokevirtual 552, 322, 1), (8, .astore_n 3, 0, 0), (9, .aload_n 1, 0, 0), (10, .invokevirtual 549, 338, 1), (13, .istore 4, 0, 0), (15, .aload_n 1, 0, 0), (16, .invokevirtual 1047, 323, 1), (19, .ifCond .eq 22, 41, 0), (22, .aload_n 0, 0, 0), (23, .iconst 0, 0, 0), (24, .putfield 15, 8, 1), (27, .aload_n 0, 0, 0), (28, .aload_n 3, 0, 0), (29, .iconst 0, 0, 0), (30, .iload 4, 0, 0), (32, .invokestatic 54, 361, 3), (35, .putfield 9, 8, 0), (38, .goto 59, 97, 0), (41, .getstatic 38, 0, 0), (44, .ifCond .eq 35, 79, 0), (47, .aload_n 1, 0, 0), (48, .getfield 1048, 9, 2), (51, .ifCond .eq 28, 79, 0), (54, .aload_n 0, 0, 0), (55, .aload_n 3, 0, 0), (56, .iconst 0, 0, 0), (57, .iload 4, 0, 0), (59, .invokestatic 1051, 999, 3), (62, .putfield 9, 8, 0), (65, .aload_n 0, 0, 0), (66, .aload_n 0, 0, 0), (67, .getfield 9, 8, 0), (70, .iload 4, 0, 0), (72, .invokestatic 47, 999, 2), (75, .putfield 15, 8, 1), (78, .return_, 0, 0), (79, .aload_n 0, 0, 0), (80, .iconst 1, 0, 0), (81, .putfield 15, 8, 1), (84, .aload_n 0, 0, 0), (85, .aload_n 3, 0, 0), (86, .iconst 0, 0, 0), (87, .iload 4, 0, 0), (89, .iconst 1, 0, 0), (90, .ishl, 0, 0), (91, .invokestatic 54, 361, 3), (94, .putfield 9, 8, 0), (97, .return_, 0, 0)]
def am_M330 : AMe := (⟨"java/lang/String", "<init>", "(Ljava/lang/AbstractStringBuilder;Ljava/lang/Void;)V"⟩, prog_27_method_150_code, 5, 2, none, [], am_e330_0)
def am_e331_0 : List AEn := [(0, .aload_n 0, 0, 0), (1, .bipush 16, 0, 0), (3, .invokespecial 1, 318, 2), (6, .return_, 0, 0)]
def am_M331 : AMe := (⟨"java/lang/StringBuilder", "<init>", "()V"⟩, prog_28_method_1_code, 1, 0, none, [], am_e331_0)
def am_e332_0 : List AEn := [(0, .aload_n 0, 0, 0), (1, .aload_n 1, 0, 0), (2, .invokespecial 7, 319, 2), (5, .return_, 0, 0)]
def am_M332 : AMe := (⟨"java/lang/StringBuilder", "<init>", "(Ljava/lang/String;)V"⟩, prog_28_method_3_code, 2, 1, none, [], am_e332_0)
def am_e333_0 : List AEn := [(0, .aload_n 0, 0, 0), (1, .aload_n 1, 0, 0), (2, .invokespecial 29, 400, 2), (5, .pop, 0, 0), (6, .aload_n 0, 0, 0), (7, .areturn, 0, 0)]
def am_M333 : AMe := (⟨"java/lang/StringBuilder", "append", "(Ljava/lang/String;)Ljava/lang/StringBuilder;"⟩, prog_28_method_7_code, 2, 1, (some (.object "java/lang/StringBuilder")), [], am_e333_0)
def am_e334_0 : List AEn := [(0, .aload_n 0, 0, 0), (1, .iload_n 1, 0, 0), (2, .invokespecial 50, 401, 2), (5, .pop, 0, 0), (6, .aload_n 0, 0, 0), (7, .areturn, 0, 0)]
def am_M334 : AMe := (⟨"java/lang/StringBuilder", "append", "(C)Ljava/lang/StringBuilder;"⟩, prog_28_method_14_code, 2, 1, (some (.object "java/lang/StringBuilder")), [], am_e334_0)
def am_e335_0 : List AEn := [(0, .aload_n 0, 0, 0), (1, .iload_n 1, 0, 0), (2, .invokespecial 53, 402, 2), (5, .pop, 0, 0), (6, .aload_n 0, 0, 0), (7, .areturn, 0, 0)]
def am_M335 : AMe := (⟨"java/lang/StringBuilder", "append", "(I)Ljava/lang/StringBuilder;"⟩, prog_28_method_15_code, 2, 1, (some (.object "java/lang/StringBuilder")), [], am_e335_0)
def am_e336_0 : List AEn := [(0, .new 18, 8, 0), (3, .dup, 0, 0), (4, .aload_n 0, 0, 0), (5, .invokespecial 137, 328, 2), (8, .areturn, 0, 0)]
def am_M336 : AMe := (⟨"java/lang/StringBuilder", "toString", "()Ljava/lang/String;"⟩, prog_28_method_42_code, 1, 0, (some (.object "java/lang/String")), [], am_e336_0)
def am_e337_0 : List AEn := [(0, .aload_n 0, 0, 0), (1, .aload_n 1, 0, 0), (2, .invokevirtual 23, 333, 2), (5, .areturn, 0, 0)]
def am_M337 : AMe := (⟨"java/lang/StringBuilder", "append", "(Ljava/lang/String;)Ljava/lang/AbstractStringBuilder;"⟩, prog_28_method_80_code, 2, 1, (some (.object "java/lang/AbstractStringBuilder")), [], am_e337_0)
def am_e338_0 : List AEn := [(0, .aload_n 0, 0, 0), (1, .invokespecial 343, 403, 1), (4, .ireturn, 0, 0)]
def am_M338 : AMe := (⟨"java/lang/StringBuilder", "length", "()I"⟩, prog_28_method_93_code, 1, 0, (some .int), [], am_e338_0)
def am_e339_0 : List AEn := [(0, .iload_n 0, 0, 0), (1, .sipush 255, 0, 0), (4, .if_icmp .gt 7, 11, 0), (7, .iconst 1, 0, 0), (8, .goto 4, 12, 0), (11, .iconst 0, 0, 0), (12, .ireturn, 0, 0)]
def am_M339 : AMe := (⟨"java/lang/StringLatin1", "canEncode", "(C)Z"⟩, prog_29_method_3_code, 1, 1, (some .boolean), [], am_e339_0)
def am_e340_0 : List AEn := [(0, .aload_n 0, 0, 0), (1, .invokespecial 1, 901, 1), (4, .return_, 0, 0)]
def am_M340 : AMe := (⟨"java/util/AbstractCollection", "<init>", "()V"⟩, prog_35_method_1_code, 1, 0, none, [], am_e340_0)
def am_e341_0 : List AEn := [(0, .aload_n 0, 0, 0), (1, .invokespecial 1, 340, 1), (4, .aload_n 0, 0, 0), (5, .iconst 0, 0, 0), (6, .putfield 7, 99, 0), (9, .return_, 0, 0)]
def am_M341 : AMe := (⟨"java/util/AbstractList", "<init>", "()V"⟩, prog_36_method_1_code, 1, 0, none, [], am_e341_0)
def am_e342_0 : List AEn := [(0, .aload_n 0, 0, 0), (1, .aload_n 1, 0, 0), (2, .putfield 1, 11, 3), (5, .aload_n 0, 0, 0), (6, .invokespecial 7, 901, 1), (9, .aload_n 0, 0, 0), (10, .iconst (-1), 0, 0), (11, .putfield 13, 11, 1), (14, .aload_n 0, 0, 0), (15, .aload_n 0, 0, 0), (16, .getfield 1, 11, 3), (19, .getfield 17, 10, 0), (22, .putfield 22, 11, 2), (25, .return_, 0, 0)]
def am_M342 : AMe := (⟨"java/util/ArrayList$Itr", "<init>", "(Ljava/util/ArrayList;)V"⟩, prog_38_method_1_code, 2, 1, none, [], am_e342_0)
def am_e343_0 : List AEn := [(0, .aload_n 0, 0, 0), (1, .getfield 25, 11, 0), (4, .aload_n 0, 0, 0), (5, .getfield 1, 11, 3), (8, .getfield 28, 10, 2), (11, .if_icmp .eq 7, 18, 0), (14, .iconst 1, 0, 0), (15, .goto 4, 19, 0), (18, .iconst 0, 0, 0), (19, .ireturn, 0, 0)]
def am_M343 : AMe := (⟨"java/util/ArrayList$Itr", "hasNext", "()Z"⟩, prog_38_method_2_code, 1, 0, (some .boolean), [], am_e343_0)
def am_e344_0 : List AEn := [(0, .aload_n 0, 0, 0), (1, .invokevirtual 31, 345, 1), (4, .aload_n 0, 0, 0), (5, .getfield 25, 11, 0), (8, .istore_n 1, 0, 0), (9, .iload_n 1, 0, 0), (10, .aload_n 0, 0, 0), (11, .getfield 1, 11, 3), (14, .getfield 28, 10, 2), (17, .if_icmp .lt 11, 28, 0), (20, .new 34, 1001, 0), (23, .dup, 0, 0), (24, .invokespecial 36, 999, 1), (27, .athrow, 0, 0), (28, .aload_n 0, 0, 0), (29, .getfield 1, 11, 3), (32, .getfield 37, 10, 1), (35, .astore_n 2, 0, 0), (36, .iload_n 1, 0, 0), (37, .aload_n 2, 0, 0), (38, .arraylength, 0, 0), (39, .if_icmp .lt 11, 50, 0), (42, .new 41, 1001, 0), (45, .dup, 0, 0), (46, .invokespecial 43, 999, 0), (49, .athrow, 0, 0), (50, .aload_n 0, 0, 0), (51, .iload_n 1, 0, 0), (52, .iconst 1, 0, 0), (53, .iadd, 0, 0), (54, .putfield 25, 11, 0), (57, .aload_n 2, 0, 0), (58, .aload_n 0, 0, 0), (59, .iload_n 1, 0, 0), (60, .dup_x1, 0, 0), (61, .putfield 13, 11, 1), (64, .aaload, 0, 0), (65, .areturn, 0, 0)]
def am_M344 : AMe := (⟨"java/util/ArrayList$Itr", "next", "()Ljava/lang/Object;"⟩, prog_38_method_3_code, 3, 0, (some (.object "java/lang/Object")), [], am_e344_0)
def am_e345_0 : List AEn := [(0, .aload_n 0, 0, 0), (1, .getfield 1, 11, 3), (4, .getfield 17, 10, 0), (7, .aload_n 0, 0, 0), (8, .getfield 22, 11, 2), (11, .if_icmp .eq 11, 22, 0), (14, .new 41, 1001, 0), (17, .dup, 0, 0), (18, .invokespecial 43, 999, 0), (21, .athrow, 0, 0), (22, .return_, 0, 0)]
def am_M345 : AMe := (⟨"java/util/ArrayList$Itr", "checkForComodification", "()V"⟩, prog_38_method_6_code, 1, 0, none, [], am_e345_0)
def am_e346_0 : List AEn := [(0, .aload_n 0, 0, 0), (1, .invokespecial 1, 341, 1), (4, .aload_n 0, 0, 0), (5, .getstatic 39, 2, 0), (8, .putfield 9, 10, 1), (11, .return_, 0, 0)]
def am_M346 : AMe := (⟨"java/util/ArrayList", "<init>", "()V"⟩, prog_37_method_2_code, 1, 0, none, [], am_e346_0)
def am_e347_0 : List AEn := [(0, .aload_n 0, 0, 0), (1, .getfield 9, 10, 1), (4, .arraylength, 0, 0), (5, .istore_n 2, 0, 0), (6, .iload_n 2, 0, 0), (7, .ifCond .gt 13, 20, 0), (10, .aload_n 0, 0, 0), (11, .getfield 9, 10, 1), (14, .getstatic 39, 2, 0), (17, .if_acmp .eq 28, 45, 0), (20, .iload_n 2, 0, 0), (21, .iload_n 1, 0, 0), (22, .iload_n 2, 0, 0), (23, .isub, 0, 0), (24, .iload_n 2, 0, 0), (25, .iconst 1, 0, 0), (26, .ishr, 0, 0), (27, .invokestatic 73, 364, 3), (30, .istore_n 3, 0, 0), (31, .aload_n 0, 0, 0), (32, .aload_n 0, 0, 0), (33, .getfield 9, 10, 1), (36, .iload_n 3, 0, 0), (37, .invokestatic 66, 999, 2), (40, .dup_x1, 0, 0), (41, .putfield 9, 10, 1), (44, .areturn, 0, 0), (45, .aload_n 0, 0, 0), (46, .bipush 10, 0, 0), (48, .iload_n 1, 0, 0), (49, .invokestatic 79, 902, 2), (52, .anewarray 7, 5, 0), (55, .dup_x1, 0, 0), (56, .putfield 9, 10, 1), (59, .areturn, 0, 0)]
def am_M347 : AMe := (⟨"java/util/ArrayList", "grow", "(I)[Ljava/lang/Object;"⟩, prog_37_method_6_code, 4, 1, (some (.array (.object "java/lang/Object"))), [], am_e347_0)
def am_e348_0 : List AEn := [(0, .aload_n 0, 0, 0), (1, .aload_n 0, 0, 0), (2, .getfield 48, 10, 2), (5, .iconst 1, 0, 0), (6, .iadd, 0, 0), (7, .invokevirtual 69, 347, 2), (10, .areturn, 0, 0)]
def am_M348 : AMe := (⟨"java/util/ArrayList", "grow", "()[Ljava/lang/Object;"⟩, prog_37_method_7_code, 1, 0, (some (.array (.object "java/lang/Object"))), [], am_e348_0)
def am_e349_0 : List AEn := [(0, .aload_n 0, 0, 0), (1, .getfield 48, 10, 2), (4, .ireturn, 0, 0)]
def am_M349 : AMe := (⟨"java/util/ArrayList", "size", "()I"⟩, prog_37_method_8_code, 1, 0, (some .int), [], am_e349_0)
def am_e350_0 : List AEn := [(0, .aload_n 0, 0, 0), (1, .getfield 48, 10, 2), (4, .ifCond .ne 7, 11, 0), (7, .iconst 1, 0, 0), (8, .goto 4, 12, 0), (11, .iconst 0, 0, 0), (12, .ireturn, 0, 0)]
def am_M350 : AMe := (⟨"java/util/ArrayList", "isEmpty", "()Z"⟩, prog_37_method_9_code, 1, 0, (some .boolean), [], am_e350_0)
def am_e351_0 : List AEn := [(0, .aload_n 0, 0, 0), (1, .getfield 9, 10, 1), (4, .iload_n 1, 0, 0), (5, .aaload, 0, 0), (6, .areturn, 0, 0)]
def am_M351 : AMe := (⟨"java/util/ArrayList", "elementData", "(I)Ljava/lang/Object;"⟩, prog_37_method_18_code, 2, 1, (some (.object "java/lang/Object")), [], am_e351_0)
def am_e352_0 : List AEn := [(0, .iload_n 1, 0, 0), (1, .aload_n 0, 0, 0), (2, .getfield 48, 10, 2), (5, .invokestatic 118, 363, 2), (8, .pop, 0, 0), (9, .aload_n 0, 0, 0), (10, .iload_n 1, 0, 0), (11, .invokevirtual 123, 351, 2), (14, .areturn, 0, 0)]
def am_M352 : AMe := (⟨"java/util/ArrayList", "get", "(I)Ljava/lang/Object;"⟩, prog_37_method_20_code, 2, 1, (some (.object "java/lang/Object")), [], am_e352_0)
def am_e353_0 : List AEn := [(0, .iload_n 3, 0, 0), (1, .aload_n 2, 0, 0), (2, .arraylength, 0, 0), (3, .if_icmp .ne 8, 11, 0), (6, .aload_n 0, 0, 0), (7, .invokevirtual 129, 348, 1), (10, .astore_n 2, 0, 0), (11, .aload_n 2, 0, 0), (12, .iload_n 3, 0, 0), (13, .aload_n 1, 0, 0), (14, .aastore, 0, 0), (15, .aload_n 0, 0, 0), (16, .iload_n 3, 0, 0), (17, .iconst 1, 0, 0), (18, .iadd, 0, 0), (19, .putfield 48, 10, 2), (22, .return_, 0, 0)]
def am_M353 : AMe := (⟨"java/util/ArrayList", "add", "(Ljava/lang/Object;[Ljava/lang/Object;I)V"⟩, prog_37_method_24_code, 4, 3, none, [], am_e353_0)
def am_e354_0 : List AEn := [(0, .aload_n 0, 0, 0), (1, .dup, 0, 0), (2, .getfield 63, 10, 0), (5, .iconst 1, 0, 0), (6, .iadd, 0, 0), (7, .putfield 63, 10, 0), (10, .aload_n 0, 0, 0), (11, .aload_n 1, 0, 0), (12, .aload_n 0, 0, 0), (13, .getfield 9, 10, 1), (16, .aload_n 0, 0, 0), (17, .getfield 48, 10, 2), (20, .invokevirtual 131, 353, 4), (23, .iconst 1, 0, 0), (24, .ireturn, 0, 0)]
def am_M354 : AMe := (⟨"java/util/ArrayList", "add", "(Ljava/lang/Object;)Z"⟩, prog_37_method_25_code, 2, 1, (some .boolean), [], am_e354_0)
def am_e355_0 : List AEn := [(0, .iload_n 1, 0, 0), (1, .aload_n 0, 0, 0), (2, .getfield 48, 10, 2), (5, .invokestatic 118, 363, 2), (8, .pop, 0, 0), (9, .aload_n 0, 0, 0), (10, .getfield 9, 10, 1), (13, .astore_n 2, 0, 0), (14, .aload_n 2, 0, 0), (15, .iload_n 1, 0, 0), (16, .aaload, 0, 0), (17, .astore_n 3, 0, 0), (18, .aload_n 0, 0, 0), (19, .aload_n 2, 0, 0), (20, .iload_n 1, 0, 0), (21, .invokevirtual 144, 356, 3), (24, .aload_n 3, 0, 0), (25, .areturn, 0, 0)]
def am_M355 : AMe := (⟨"java/util/ArrayList", "remove", "(I)Ljava/lang/Object;"⟩, prog_37_method_29_code, 4, 1, (some (.object "java/lang/Object")), [], am_e355_0)
def am_e356_0 : List AEn := [(0, .aload_n 0, 0, 0), (1, .dup, 0, 0), (2, .getfield 63, 10, 0), (5, .iconst 1, 0, 0), (6, .iadd, 0, 0), (7, .putfield 63, 10, 0), (10, .aload_n 0, 0, 0), (11, .getfield 48, 10, 2), (14, .iconst 1, 0, 0), (15, .isub, 0, 0), (16, .dup, 0, 0), (17, .istore_n 3, 0, 0), (18, .iload_n 2, 0, 0), (19, .if_icmp .le 15, 34, 0), (22, .aload_n 1, 0, 0), (23, .iload_n 2, 0, 0), (24, .iconst 1, 0, 0), (25, .iadd, 0, 0), (26, .aload_n 1, 0, 0), (27, .iload_n 2, 0, 0), (28, .iload_n 3, 0, 0), (29, .iload_n 2, 0, 0), (30, .isub, 0, 0), (31, .invokestatic 112, 900, 5), (34, .aload_n 1, 0, 0), (35, .aload_n 0, 0, 0), (36, .iload_n 3, 0, 0), (37, .dup_x1, 0, 0), (38, .putfield 48, 10, 2), (41, .aconst_null, 0, 0), (42, .aastore, 0, 0), (43, .return_, 0, 0)]
def am_M356 : AMe := (⟨"java/util/ArrayList", "fastRemove", "([Ljava/lang/Object;I)V"⟩, prog_37_method_39_code, 4, 2, none, [], am_e356_0)
def am_e357_0 : List AEn := [(0, .aload_n 0, 0, 0), (1, .dup, 0, 0), (2, .getfield 63, 10, 0), (5, .iconst 1, 0, 0), (6, .iadd, 0, 0), (7, .putfield 63, 10, 0), (10, .aload_n 0, 0, 0), (11, .getfield 9, 10, 1), (14, .astore_n 1, 0, 0), (15, .aload_n 0, 0, 0), (16, .getfield 48, 10, 2), (19, .istore_n 2, 0, 0), (20, .aload_n 0, 0, 0), (21, .iconst 0, 0, 0), (22, .dup_x1, 0, 0), (23, .putfield 48, 10, 2), (26, .istore_n 3, 0, 0), (27, .iload_n 3, 0, 0), (28, .iload_n 2, 0, 0), (29, .if_icmp .ge 13, 42, 0), (32, .aload_n 1, 0, 0), (33, .iload_n 3, 0, 0), (34, .aconst_null, 0, 0), (35, .aastore, 0, 0), (36, .iinc 3 1, 0, 0), (39, .goto (-12), 27, 0), (42, .return_, 0, 0)]
def am_M357 : AMe := (⟨"java/util/ArrayList", "clear", "()V"⟩, prog_37_method_40_code, 4, 0, none, [], am_e357_0)
def am_e358_0 : List AEn := [(0, .new 267, 11, 0), (3, .dup, 0, 0), (4, .aload_n 0, 0, 0), (5, .invokespecial 269, 342, 2), (8, .areturn, 0, 0)]
def am_M358 : AMe := (⟨"java/util/ArrayList", "iterator", "()Ljava/util/Iterator;"⟩, prog_37_method_55_code, 1, 0, (some (.object "java/util/Iterator")), [], am_e358_0)
def am_e359_0 : List AEn := [(0, .iload_n 1, 0, 0), (1, .aload_n 0, 0, 0), (2, .arraylength, 0, 0), (3, .if_icmp .ne 11, 14, 0), (6, .aload_n 0, 0, 0), (7, .invokevirtual 310, 905, 1), (10, .checkcast 311, 102, 0), (13, .areturn, 0, 0), (14, .iload_n 1, 0, 0), (15, .newarray .byte, 0, 0), (17, .astore_n 2, 0, 0), (18, .aload_n 0, 0, 0), (19, .iconst 0, 0, 0), (20, .aload_n 2, 0, 0), (21, .iconst 0, 0, 0), (22, .aload_n 0, 0, 0), (23, .arraylength, 0, 0), (24, .iload_n 1, 0, 0), (25, .invokestatic 304, 903, 2), (28, .invokestatic 150, 900, 5), (31, .aload_n 2, 0, 0), (32, .areturn, 0, 0)]
def am_M359 : AMe := (⟨"java/util/Arrays", "copyOf", "([BI)[B"⟩, prog_39_method_121_code, 3, 2, (some (.array .byte)), [], am_e359_0)
def am_e360_0 : List AEn := [(0, .iload_n 1, 0, 0), (1, .iload_n 0, 0, 0), (2, .if_icmp .ge 35, 37, 0), (5, .new 43, 1001, 0), (8, .dup, 0, 0), (9, .new 45, 9, 0), (12, .dup, 0, 0), (13, .invokespecial 47, 331, 1), (16, .iload_n 0, 0, 0), (17, .invokevirtual 54, 335, 2), (20, .ldc_w 337, 9, 0), (23, .invokevirtual 50, 333, 2), (26, .iload_n 1, 0, 0), (27, .invokevirtual 54, 335, 2), (30, .invokevirtual 61, 336, 1), (33, .invokespecial 65, 999, 2), (36, .athrow, 0, 0), (37, .return_, 0, 0)]
def am_M360 : AMe := (⟨"java/util/Arrays", "checkLength", "(II)V"⟩, prog_39_method_131_code, 2, 2, none, [], am_e360_0)
def am_e361_0 : List AEn := [(0, .iload_n 1, 0, 0), (1, .ifCond .ne 9, 10, 0), (4, .iload_n 2, 0, 0), (5, .aload_n 0, 0, 0), (6, .arraylength, 0, 0), (7, .if_icmp .eq 10, 17, 0), (10, .aload_n 0, 0, 0), (11, .iload_n 1, 0, 0), (12, .iload_n 2, 0, 0), (13, .invokestatic 339, 362, 3), (16, .areturn, 0, 0), (17, .aload_n 0, 0, 0), (18, .invokevirtual 310, 905, 1), (21, .checkcast 311, 102, 0), (24, .areturn, 0, 0)]
def am_M361 : AMe := (⟨"java/util/Arrays", "copyOfRange", "([BII)[B"⟩, prog_39_method_132_code, 3, 3, (some (.array .byte)), [], am_e361_0)
def am_e362_0 : List AEn := [(0, .iload_n 1, 0, 0), (1, .iload_n 2, 0, 0), (2, .invokestatic 343, 360, 2), (5, .iload_n 2, 0, 0), (6, .iload_n 1, 0, 0), (7, .isub, 0, 0), (8, .istore_n 3, 0, 0), (9, .iload_n 3, 0, 0), (10, .newarray .byte, 0, 0), (12, .astore 4, 0, 0), (14, .aload_n 0, 0, 0), (15, .iload_n 1, 0, 0), (16, .aload 4, 0, 0), (18, .iconst 0, 0, 0), (19, .aload_n 0, 0, 0), (20, .arraylength, 0, 0), (21, .iload_n 1, 0, 0), (22, .isub, 0, 0), (23, .iload_n 3, 0, 0), (24, .invokestatic 304, 903, 2), (27, .invokestatic 150, 900, 5), (30, .aload 4, 0, 0), (32, .areturn, 0, 0)]
def am_M362 : AMe := (⟨"java/util/Arrays", "copyOfRangeByte", "([BII)[B"⟩, prog_39_method_133_code, 5, 3, (some (.array .byte)), [], am_e362_0)
def am_e363_0 : List AEn := [(0, .iload_n 0, 0, 0), (1, .iload_n 1, 0, 0), (2, .aconst_null, 0, 0), (3, .invokestatic 105, 262, 3), (6, .ireturn, 0, 0)]
def am_M363 : AMe := (⟨"java/util/Objects", "checkIndex", "(II)I"⟩, prog_44_method_17_code, 2, 2, (some .int), [], am_e363_0)
def am_e364_0 : List AEn := [(0, .iload_n 0, 0, 0), (1, .iload_n 1, 0, 0), (2, .iload_n 2, 0, 0), (3, .invokestatic 194, 902, 2), (6, .iadd, 0, 0), (7, .istore_n 3, 0, 0), (8, .iconst 0, 0, 0), (9, .iload_n 3, 0, 0), (10, .if_icmp .ge 11, 21, 0), (13, .iload_n 3, 0, 0), (14, .ldc 200, 0, 2147483639), (16, .if_icmp .gt 5, 21, 0), (19, .iload_n 3, 0, 0), (20, .ireturn, 0, 0), (21, .iload_n 0, 0, 0), (22, .iload_n 1, 0, 0), (23, .invokestatic 201, 999, 2), (26, .ireturn, 0, 0)]
def am_M364 : AMe := (⟨"jdk/internal/util/ArraysSupport", "newLength", "(III)I"⟩, prog_47_method_27_code, 4, 3, (some .int), [], am_e364_0)
def am_e365_0 : List AEn := [(0, .iload_n 1, 0, 0), (1, .aload_n 0, 0, 0), (2, .arraylength, 0, 0), (3, .if_icmp .ge 9, 12, 0), (6, .aload_n 0, 0, 0), (7, .iload_n 1, 0, 0), (8, .iaload, 0, 0), (9, .goto 4, 13, 0), (12, .iconst 0, 0, 0), (13, .ireturn, 0, 0)]
def am_M365 : AMe := (⟨"PebbleProofsLaw", "cell", "([II)I"⟩, method_2_code, 2, 2, (some .int), [], am_e365_0)
def am_e366_0 : List AEn := [(0, .aload_n 0, 0, 0), (1, .iload_n 1, 0, 0), (2, .invokestatic 7, 365, 2), (5, .ldc 13, 0, 2147483647), (7, .iand, 0, 0), (8, .iload_n 2, 0, 0), (9, .irem, 0, 0), (10, .ireturn, 0, 0)]
def am_M366 : AMe := (⟨"PebbleProofsLaw", "pick", "([III)I"⟩, method_3_code, 3, 3, (some .int), [], am_e366_0)
def am_e367_0 : List AEn := [(0, .aload_n 0, 0, 0), (1, .iload_n 1, 0, 0), (2, .iconst 0, 0, 0), (3, .iconst 0, 0, 0), (4, .iconst 0, 0, 0), (5, .iconst 0, 0, 0), (6, .invokevirtual 14, 80, 6), (9, .ireturn, 0, 0), (10, .astore_n 2, 0, 0), (11, .ldc 22, 0, 3294967293), (13, .ireturn, 0, 0)]
def am_M367 : AMe := (⟨"PebbleProofsLaw", "append", "(LPebbleProofs;I)I"⟩, method_4_code, 3, 2, (some .int), [(0, 9, 10, 20, 0)], am_e367_0)
def am_e368_0 : List AEn := [(0, .aload_n 0, 0, 0), (1, .invokevirtual 23, 83, 1), (4, .ireturn, 0, 0), (5, .astore_n 1, 0, 0), (6, .ldc 29, 0, 3294967294), (8, .ireturn, 0, 0)]
def am_M368 : AMe := (⟨"PebbleProofsLaw", "load", "(LPebbleProofs;)I"⟩, method_5_code, 2, 1, (some .int), [(0, 4, 5, 27, 1)], am_e368_0)
def am_e369_0 : List AEn := [(0, .aload_n 0, 0, 0), (1, .iconst 0, 0, 0), (2, .invokevirtual 30, 81, 2), (5, .pop, 0, 0), (6, .iconst 0, 0, 0), (7, .istore_n 2, 0, 0), (8, .iconst 0, 0, 0), (9, .istore_n 3, 0, 0), (10, .iload_n 3, 0, 0), (11, .aload_n 1, 0, 0), (12, .invokevirtual 34, 255, 1), (15, .if_icmp .ge 65, 80, 0), (18, .iconst 0, 0, 0), (19, .istore 4, 0, 0), (21, .iconst 0, 0, 0), (22, .istore 5, 0, 0), (24, .iload 5, 0, 0), (26, .iconst 4, 0, 0), (27, .if_icmp .ge 40, 67, 0), (30, .iload 4, 0, 0), (32, .bipush 8, 0, 0), (34, .ishl, 0, 0), (35, .iload_n 3, 0, 0), (36, .iload 5, 0, 0), (38, .iadd, 0, 0), (39, .aload_n 1, 0, 0), (40, .invokevirtual 34, 255, 1), (43, .if_icmp .ge 14, 57, 0), (46, .aload_n 1, 0, 0), (47, .iload_n 3, 0, 0), (48, .iload 5, 0, 0), (50, .iadd, 0, 0), (51, .invokevirtual 39, 256, 2), (54, .goto 4, 58, 0), (57, .iconst 0, 0, 0), (58, .ior, 0, 0), (59, .istore 4, 0, 0), (61, .iinc 5 1, 0, 0), (64, .goto (-40), 24, 0), (67, .aload_n 0, 0, 0), (68, .iload 4, 0, 0), (70, .invokestatic 43, 367, 2), (73, .istore_n 2, 0, 0), (74, .iinc 3 4, 0, 0), (77, .goto (-67), 10, 0), (80, .iload_n 2, 0, 0), (81, .aload_n 1, 0, 0), (82, .invokevirtual 34, 255, 1), (85, .if_icmp .ne 7, 92, 0), (88, .iconst 1, 0, 0), (89, .goto 4, 93, 0), (92, .iconst 0, 0, 0), (93, .ireturn, 0, 0)]
def am_M369 : AMe := (⟨"PebbleProofsLaw", "type", "(LPebbleProofs;Ljava/lang/String;)Z"⟩, method_6_code, 6, 2, (some .boolean), [], am_e369_0)
def am_e370_0 : List AEn := [(0, .aload_n 0, 0, 0), (1, .iload_n 1, 0, 0), (2, .iload_n 2, 0, 0), (3, .invokevirtual 46, 86, 3), (6, .ireturn, 0, 0), (7, .astore_n 3, 0, 0), (8, .ldc 52, 0, 3294967295), (10, .ireturn, 0, 0), (11, .astore_n 3, 0, 0), (12, .ldc 29, 0, 3294967294), (14, .ireturn, 0, 0)]
def am_M370 : AMe := (⟨"PebbleProofsLaw", "put", "(LPebbleProofs;II)I"⟩, method_7_code, 4, 3, (some .int), [(0, 6, 7, 50, 2), (0, 6, 11, 27, 1)], am_e370_0)
def am_e371_0 : List AEn := [(0, .aload_n 0, 0, 0), (1, .iload_n 1, 0, 0), (2, .iload_n 2, 0, 0), (3, .invokevirtual 53, 88, 3), (6, .ireturn, 0, 0), (7, .astore_n 3, 0, 0), (8, .ldc 52, 0, 3294967295), (10, .ireturn, 0, 0), (11, .astore_n 3, 0, 0), (12, .ldc 22, 0, 3294967293), (14, .ireturn, 0, 0)]
def am_M371 : AMe := (⟨"PebbleProofsLaw", "move", "(LPebbleProofs;II)I"⟩, method_8_code, 4, 3, (some .int), [(0, 6, 7, 50, 2), (0, 6, 11, 20, 0)], am_e371_0)
def am_e372_0 : List AEn := [(0, .aload_n 0, 0, 0), (1, .iload_n 1, 0, 0), (2, .invokevirtual 62, 89, 2), (5, .ireturn, 0, 0), (6, .astore_n 2, 0, 0), (7, .ldc 52, 0, 3294967295), (9, .ireturn, 0, 0), (10, .astore_n 2, 0, 0), (11, .ldc 22, 0, 3294967293), (13, .ireturn, 0, 0)]
def am_M372 : AMe := (⟨"PebbleProofsLaw", "reach", "(LPebbleProofs;I)I"⟩, method_10_code, 3, 2, (some .int), [(0, 5, 6, 50, 2), (0, 5, 10, 20, 0)], am_e372_0)
def am_e373_0 : List AEn := [(0, .aload_n 0, 0, 0), (1, .iload_n 1, 0, 0), (2, .iload_n 2, 0, 0), (3, .invokevirtual 65, 84, 3), (6, .ireturn, 0, 0), (7, .astore_n 3, 0, 0), (8, .ldc 52, 0, 3294967295), (10, .ireturn, 0, 0), (11, .astore_n 3, 0, 0), (12, .ldc 29, 0, 3294967294), (14, .ireturn, 0, 0), (15, .astore_n 3, 0, 0), (16, .ldc 22, 0, 3294967293), (18, .ireturn, 0, 0)]
def am_M373 : AMe := (⟨"PebbleProofsLaw", "addEdge", "(LPebbleProofs;II)I"⟩, method_11_code, 4, 3, (some .int), [(0, 6, 7, 50, 2), (0, 6, 11, 27, 1), (0, 6, 15, 20, 0)], am_e373_0)
def am_e374_0 : List AEn := [(0, .aload_n 0, 0, 0), (1, .iload_n 1, 0, 0), (2, .iload_n 2, 0, 0), (3, .invokevirtual 68, 85, 3), (6, .ireturn, 0, 0), (7, .astore_n 3, 0, 0), (8, .ldc 52, 0, 3294967295), (10, .ireturn, 0, 0), (11, .astore_n 3, 0, 0), (12, .ldc 29, 0, 3294967294), (14, .ireturn, 0, 0), (15, .astore_n 3, 0, 0), (16, .ldc 22, 0, 3294967293), (18, .ireturn, 0, 0)]
def am_M374 : AMe := (⟨"PebbleProofsLaw", "removeEdge", "(LPebbleProofs;II)I"⟩, method_12_code, 4, 3, (some .int), [(0, 6, 7, 50, 2), (0, 6, 11, 27, 1), (0, 6, 15, 20, 0)], am_e374_0)
def am_e375_0 : List AEn := [(0, .aload_n 0, 0, 0), (1, .iload_n 1, 0, 0), (2, .iload_n 2, 0, 0), (3, .invokevirtual 71, 87, 3), (6, .ireturn, 0, 0), (7, .astore_n 3, 0, 0), (8, .ldc 52, 0, 3294967295), (10, .ireturn, 0, 0), (11, .astore_n 3, 0, 0), (12, .ldc 29, 0, 3294967294), (14, .ireturn, 0, 0), (15, .astore_n 3, 0, 0), (16, .ldc 22, 0, 3294967293), (18, .ireturn, 0, 0)]
def am_M375 : AMe := (⟨"PebbleProofsLaw", "take", "(LPebbleProofs;II)I"⟩, method_13_code, 4, 3, (some .int), [(0, 6, 7, 50, 2), (0, 6, 11, 27, 1), (0, 6, 15, 20, 0)], am_e375_0)
def am_e376_0 : List AEn := [(0, .aload_n 0, 0, 0), (1, .iload_n 1, 0, 0), (2, .invokevirtual 74, 90, 2), (5, .ireturn, 0, 0), (6, .astore_n 2, 0, 0), (7, .ldc 52, 0, 3294967295), (9, .ireturn, 0, 0), (10, .astore_n 2, 0, 0), (11, .ldc 22, 0, 3294967293), (13, .ireturn, 0, 0)]
def am_M376 : AMe := (⟨"PebbleProofsLaw", "addStrategy", "(LPebbleProofs;I)I"⟩, method_14_code, 3, 2, (some .int), [(0, 5, 6, 50, 2), (0, 5, 10, 20, 0)], am_e376_0)
def am_e377_0 : List AEn := [(0, .aload_n 0, 0, 0), (1, .iload_n 1, 0, 0), (2, .iload_n 2, 0, 0), (3, .iload_n 3, 0, 0), (4, .iload 4, 0, 0), (6, .invokevirtual 77, 91, 5), (9, .ireturn, 0, 0), (10, .astore 5, 0, 0), (12, .ldc 52, 0, 3294967295), (14, .ireturn, 0, 0), (15, .astore 5, 0, 0), (17, .ldc 29, 0, 3294967294), (19, .ireturn, 0, 0)]
def am_M377 : AMe := (⟨"PebbleProofsLaw", "weigh", "(LPebbleProofs;IIII)I"⟩, method_15_code, 6, 5, (some .int), [(0, 9, 10, 50, 2), (0, 9, 15, 27, 1)], am_e377_0)
def am_e378_0 : List AEn := [(0, .aload_n 0, 0, 0), (1, .iload_n 1, 0, 0), (2, .invokevirtual 81, 92, 2), (5, .ireturn, 0, 0), (6, .astore_n 2, 0, 0), (7, .ldc 52, 0, 3294967295), (9, .ireturn, 0, 0)]
def am_M378 : AMe := (⟨"PebbleProofsLaw", "dropStrategy", "(LPebbleProofs;I)I"⟩, method_16_code, 3, 2, (some .int), [(0, 5, 6, 50, 2)], am_e378_0)
def am_e379_0 : List AEn := [(0, .aload_n 0, 0, 0), (1, .invokevirtual 84, 93, 1), (4, .ireturn, 0, 0), (5, .astore_n 1, 0, 0), (6, .ldc 22, 0, 3294967293), (8, .ireturn, 0, 0)]
def am_M379 : AMe := (⟨"PebbleProofsLaw", "undo", "(LPebbleProofs;)I"⟩, method_17_code, 2, 1, (some .int), [(0, 4, 5, 20, 0)], am_e379_0)
def am_e380_0 : List AEn := [(0, .aload_n 0, 0, 0), (1, .invokevirtual 87, 96, 1), (4, .ireturn, 0, 0), (5, .astore_n 1, 0, 0), (6, .ldc 22, 0, 3294967293), (8, .ireturn, 0, 0)]
def am_M380 : AMe := (⟨"PebbleProofsLaw", "restore", "(LPebbleProofs;)I"⟩, method_18_code, 2, 1, (some .int), [(0, 4, 5, 20, 0)], am_e380_0)
def am_e381_0 : List AEn := [(0, .iload_n 0, 0, 0), (1, .ldc 52, 0, 3294967295), (3, .if_icmp .gt 13, 16, 0), (6, .iload_n 0, 0, 0), (7, .ldc 90, 0, 3294967291), (9, .if_icmp .lt 7, 16, 0), (12, .iconst 1, 0, 0), (13, .goto 4, 17, 0), (16, .iconst 0, 0, 0), (17, .ireturn, 0, 0)]
def am_M381 : AMe := (⟨"PebbleProofsLaw", "isError", "(I)Z"⟩, method_19_code, 1, 1, (some .boolean), [], am_e381_0)
def am_e382_0 : List AEn := [(0, .iload_n 0, 0, 0), (1, .bipush 29, 0, 0), (3, .irem, 0, 0), (4, .ifCond .eq 7, 11, 0), (7, .iload_n 1, 0, 0), (8, .ifCond .ne 7, 15, 0), (11, .iload_n 1, 0, 0), (12, .goto 6, 18, 0), (15, .iload_n 0, 0, 0), (16, .iload_n 1, 0, 0), (17, .irem, 0, 0), (18, .ireturn, 0, 0)]
def am_M382 : AMe := (⟨"PebbleProofsLaw", "one", "(II)I"⟩, method_20_code, 2, 2, (some .int), [], am_e382_0)
def am_e383_0 : List AEn := [(0, .iload_n 0, 0, 0), (1, .bipush 31, 0, 0), (3, .irem, 0, 0), (4, .ifCond .ne 9, 13, 0), (7, .iload_n 2, 0, 0), (8, .iconst 1, 0, 0), (9, .iadd, 0, 0), (10, .goto 25, 35, 0), (13, .iload_n 0, 0, 0), (14, .bipush 37, 0, 0), (16, .irem, 0, 0), (17, .ifCond .ne 9, 26, 0), (20, .iload_n 1, 0, 0), (21, .iconst 1, 0, 0), (22, .isub, 0, 0), (23, .goto 12, 35, 0), (26, .iload_n 1, 0, 0), (27, .iload_n 0, 0, 0), (28, .iload_n 2, 0, 0), (29, .iload_n 1, 0, 0), (30, .isub, 0, 0), (31, .iconst 1, 0, 0), (32, .iadd, 0, 0), (33, .irem, 0, 0), (34, .iadd, 0, 0), (35, .ireturn, 0, 0)]
def am_M383 : AMe := (⟨"PebbleProofsLaw", "some", "(III)I"⟩, method_21_code, 3, 3, (some .int), [], am_e383_0)
def am_e384_0 : List AEn := [(0, .iload_n 0, 0, 0), (1, .iload_n 1, 0, 0), (2, .if_icmp .lt 12, 14, 0), (5, .iload_n 0, 0, 0), (6, .iload_n 2, 0, 0), (7, .if_icmp .gt 7, 14, 0), (10, .iconst 1, 0, 0), (11, .goto 4, 15, 0), (14, .iconst 0, 0, 0), (15, .ireturn, 0, 0)]
def am_M384 : AMe := (⟨"PebbleProofsLaw", "is", "(III)Z"⟩, method_22_code, 3, 3, (some .boolean), [], am_e384_0)
def am_e385_0 : List AEn := [(0, .iload_n 3, 0, 0), (1, .bipush 64, 0, 0), (3, .idiv, 0, 0), (4, .istore 4, 0, 0), (6, .iload_n 3, 0, 0), (7, .aload_n 0, 0, 0), (8, .getfield 91, 7, 0), (11, .invokestatic 97, 382, 2), (14, .istore 5, 0, 0), (16, .iload 4, 0, 0), (18, .aload_n 0, 0, 0), (19, .getfield 91, 7, 0), (22, .invokestatic 97, 382, 2), (25, .istore 6, 0, 0), (27, .iload 5, 0, 0), (29, .aload_n 0, 0, 0), (30, .getfield 91, 7, 0), (33, .if_icmp .ge 16, 49, 0), (36, .iload 6, 0, 0), (38, .aload_n 0, 0, 0), (39, .getfield 91, 7, 0), (42, .if_icmp .ge 7, 49, 0), (45, .iconst 1, 0, 0), (46, .goto 4, 50, 0), (49, .iconst 0, 0, 0), (50, .istore 7, 0, 0), (52, .iload_n 3, 0, 0), (53, .aload_n 0, 0, 0), (54, .getfield 100, 7, 4), (57, .invokevirtual 104, 349, 1), (60, .invokestatic 97, 382, 2), (63, .istore 8, 0, 0), (65, .iload_n 2, 0, 0), (66, .tableswitch 737 0 14 #[74, 74, 124, 124, 189, 189, 189, 272, 357, 357, 357, 437, 514, 600, 600], 0, 74), (140, .iload 7, 0, 0), (142, .ifCond .ne 6, 148, 0), (145, .ldc 52, 0, 3294967295), (147, .ireturn, 0, 0), (148, .iload 5, 0, 0), (150, .iload 6, 0, 0), (152, .if_icmp .ne 6, 158, 0), (155, .ldc 29, 0, 3294967294), (157, .ireturn, 0, 0), (158, .aload_n 0, 0, 0), (159, .getfield 109, 7, 1), (162, .iload 5, 0, 0), (164, .aaload, 0, 0), (165, .iload 6, 0, 0), (167, .baload, 0, 0), (168, .ifCond .eq 9, 177, 0), (171, .aload_n 1, 0, 0), (172, .iconst 1, 0, 0), (173, .invokevirtual 113, 301, 2), (176, .ireturn, 0, 0), (177, .aload_n 0, 0, 0), (178, .iload 5, 0, 0), (180, .iload 6, 0, 0), (182, .invokevirtual 118, 304, 3), (185, .aload_n 0, 0, 0), (186, .invokevirtual 122, 305, 1)]
def am_e385_1 : List AEn := [(189, .ireturn, 0, 0), (190, .iload 7, 0, 0), (192, .ifCond .ne 6, 198, 0), (195, .ldc 52, 0, 3294967295), (197, .ireturn, 0, 0), (198, .iload 5, 0, 0), (200, .iload 6, 0, 0), (202, .if_icmp .ne 6, 208, 0), (205, .ldc 29, 0, 3294967294), (207, .ireturn, 0, 0), (208, .aload_n 0, 0, 0), (209, .getfield 109, 7, 1), (212, .iload 5, 0, 0), (214, .aaload, 0, 0), (215, .iload 6, 0, 0), (217, .baload, 0, 0), (218, .ifCond .ne 9, 227, 0), (221, .aload_n 1, 0, 0), (222, .iconst 2, 0, 0), (223, .invokevirtual 113, 301, 2), (226, .ireturn, 0, 0), (227, .aload_n 0, 0, 0), (228, .iload 5, 0, 0), (230, .iload 6, 0, 0), (232, .invokevirtual 118, 304, 3), (235, .aload_n 0, 0, 0), (236, .invokevirtual 125, 307, 1), (239, .ifCond .eq 10, 249, 0), (242, .aload_n 0, 0, 0), (243, .invokevirtual 122, 305, 1), (246, .goto 8, 254, 0), (249, .aload_n 1, 0, 0), (250, .iconst 3, 0, 0), (251, .invokevirtual 113, 301, 2), (254, .ireturn, 0, 0), (255, .iload 4, 0, 0), (257, .iconst 1, 0, 0), (258, .iload 4, 0, 0), (260, .iconst 4, 0, 0), (261, .irem, 0, 0), (262, .ifCond .ne 8, 270, 0), (265, .bipush 99, 0, 0), (267, .goto 4, 271, 0), (270, .iconst 5, 0, 0), (271, .invokestatic 129, 383, 3), (274, .istore 9, 0, 0), (276, .iload 5, 0, 0), (278, .aload_n 0, 0, 0), (279, .getfield 91, 7, 0), (282, .if_icmp .ne 6, 288, 0), (285, .ldc 52, 0, 3294967295), (287, .ireturn, 0, 0), (288, .iload 9, 0, 0), (290, .iconst 1, 0, 0), (291, .bipush 99, 0, 0), (293, .invokestatic 133, 384, 3), (296, .ifCond .eq 19, 315, 0), (299, .aload_n 0, 0, 0), (300, .getfield 137, 7, 2), (303, .iload 5, 0, 0)]
def am_e385_2 : List AEn := [(305, .iaload, 0, 0), (306, .iload 9, 0, 0), (308, .iadd, 0, 0), (309, .sipush 999, 0, 0), (312, .if_icmp .le 6, 318, 0), (315, .ldc 29, 0, 3294967294), (317, .ireturn, 0, 0), (318, .aload_n 0, 0, 0), (319, .getfield 137, 7, 2), (322, .iload 5, 0, 0), (324, .dup2, 0, 0), (325, .iaload, 0, 0), (326, .iload 9, 0, 0), (328, .iadd, 0, 0), (329, .iastore, 0, 0), (330, .aload_n 0, 0, 0), (331, .getfield 137, 7, 2), (334, .iload 5, 0, 0), (336, .iaload, 0, 0), (337, .ireturn, 0, 0), (338, .iload 4, 0, 0), (340, .iconst 1, 0, 0), (341, .iload 4, 0, 0), (343, .iconst 4, 0, 0), (344, .irem, 0, 0), (345, .ifCond .ne 8, 353, 0), (348, .bipush 99, 0, 0), (350, .goto 4, 354, 0), (353, .iconst 3, 0, 0), (354, .invokestatic 129, 383, 3), (357, .istore 9, 0, 0), (359, .iload 5, 0, 0), (361, .aload_n 0, 0, 0), (362, .getfield 91, 7, 0), (365, .if_icmp .ne 6, 371, 0), (368, .ldc 52, 0, 3294967295), (370, .ireturn, 0, 0), (371, .iload 9, 0, 0), (373, .iconst 1, 0, 0), (374, .bipush 99, 0, 0), (376, .invokestatic 133, 384, 3), (379, .ifCond .ne 6, 385, 0), (382, .ldc 29, 0, 3294967294), (384, .ireturn, 0, 0), (385, .aload_n 0, 0, 0), (386, .getfield 137, 7, 2), (389, .iload 5, 0, 0), (391, .iaload, 0, 0), (392, .iload 9, 0, 0), (394, .if_icmp .ge 9, 403, 0), (397, .aload_n 1, 0, 0), (398, .iconst 5, 0, 0), (399, .invokevirtual 113, 301, 2), (402, .ireturn, 0, 0), (403, .aload_n 0, 0, 0), (404, .getfield 137, 7, 2), (407, .iload 5, 0, 0), (409, .dup2, 0, 0), (410, .iaload, 0, 0), (411, .iload 9, 0, 0)]
def am_e385_3 : List AEn := [(413, .isub, 0, 0), (414, .iastore, 0, 0), (415, .aload_n 0, 0, 0), (416, .getfield 137, 7, 2), (419, .iload 5, 0, 0), (421, .iaload, 0, 0), (422, .ireturn, 0, 0), (423, .iload 7, 0, 0), (425, .ifCond .ne 6, 431, 0), (428, .ldc 52, 0, 3294967295), (430, .ireturn, 0, 0), (431, .aload_n 0, 0, 0), (432, .getfield 109, 7, 1), (435, .iload 5, 0, 0), (437, .aaload, 0, 0), (438, .iload 6, 0, 0), (440, .baload, 0, 0), (441, .ifCond .ne 9, 450, 0), (444, .aload_n 1, 0, 0), (445, .iconst 4, 0, 0), (446, .invokevirtual 113, 301, 2), (449, .ireturn, 0, 0), (450, .aload_n 0, 0, 0), (451, .getfield 137, 7, 2), (454, .iload 5, 0, 0), (456, .iaload, 0, 0), (457, .iconst 2, 0, 0), (458, .if_icmp .ge 9, 467, 0), (461, .aload_n 1, 0, 0), (462, .iconst 5, 0, 0), (463, .invokevirtual 113, 301, 2), (466, .ireturn, 0, 0), (467, .aload_n 0, 0, 0), (468, .getfield 137, 7, 2), (471, .iload 6, 0, 0), (473, .iaload, 0, 0), (474, .sipush 999, 0, 0), (477, .if_icmp .ne 10, 487, 0), (480, .aload_n 1, 0, 0), (481, .bipush 6, 0, 0), (483, .invokevirtual 113, 301, 2), (486, .ireturn, 0, 0), (487, .aload_n 0, 0, 0), (488, .iload 5, 0, 0), (490, .iload 6, 0, 0), (492, .invokevirtual 141, 315, 3), (495, .aload_n 0, 0, 0), (496, .getfield 137, 7, 2), (499, .iload 6, 0, 0), (501, .iaload, 0, 0), (502, .ireturn, 0, 0), (503, .iload 5, 0, 0), (505, .aload_n 0, 0, 0), (506, .getfield 91, 7, 0), (509, .if_icmp .ne 6, 515, 0), (512, .ldc 52, 0, 3294967295), (514, .ireturn, 0, 0), (515, .aload_n 0, 0, 0), (516, .iload 5, 0, 0), (518, .invokevirtual 143, 313, 2)]
def am_e385_4 : List AEn := [(521, .ifCond .ne 10, 531, 0), (524, .aload_n 1, 0, 0), (525, .bipush 6, 0, 0), (527, .invokevirtual 113, 301, 2), (530, .ireturn, 0, 0), (531, .aload_n 0, 0, 0), (532, .getfield 147, 7, 3), (535, .istore 9, 0, 0), (537, .aload_n 0, 0, 0), (538, .getfield 137, 7, 2), (541, .iload 5, 0, 0), (543, .iaload, 0, 0), (544, .ifCond .ne 28, 572, 0), (547, .aload_n 0, 0, 0), (548, .iload 5, 0, 0), (550, .invokevirtual 150, 314, 2), (553, .istore 10, 0, 0), (555, .aload_n 0, 0, 0), (556, .iload 10, 0, 0), (558, .bipush 10, 0, 0), (560, .idiv, 0, 0), (561, .iload 10, 0, 0), (563, .bipush 10, 0, 0), (565, .irem, 0, 0), (566, .invokevirtual 141, 315, 3), (569, .goto (-32), 537, 0), (572, .aload_n 0, 0, 0), (573, .getfield 147, 7, 3), (576, .iload 9, 0, 0), (578, .isub, 0, 0), (579, .ireturn, 0, 0), (580, .iload 5, 0, 0), (582, .aload_n 0, 0, 0), (583, .getfield 91, 7, 0), (586, .if_icmp .ne 6, 592, 0), (589, .ldc 52, 0, 3294967295), (591, .ireturn, 0, 0), (592, .aload_n 0, 0, 0), (593, .getfield 100, 7, 4), (596, .invokevirtual 104, 349, 1), (599, .bipush 6, 0, 0), (601, .if_icmp .ne 10, 611, 0), (604, .aload_n 1, 0, 0), (605, .bipush 7, 0, 0), (607, .invokevirtual 113, 301, 2), (610, .ireturn, 0, 0), (611, .bipush 13, 0, 0), (613, .newarray .int, 0, 0), (615, .astore 9, 0, 0), (617, .aload 9, 0, 0), (619, .iconst 0, 0, 0), (620, .iload 5, 0, 0), (622, .iastore, 0, 0), (623, .bipush 7, 0, 0), (625, .istore 10, 0, 0), (627, .iload 10, 0, 0), (629, .bipush 13, 0, 0), (631, .if_icmp .ge 15, 646, 0), (634, .aload 9, 0, 0), (636, .iload 10, 0, 0)]
def am_e385_5 : List AEn := [(638, .iconst (-1), 0, 0), (639, .iastore, 0, 0), (640, .iinc 10 1, 0, 0), (643, .goto (-16), 627, 0), (646, .aload_n 0, 0, 0), (647, .getfield 100, 7, 4), (650, .aload 9, 0, 0), (652, .invokevirtual 151, 354, 2), (655, .pop, 0, 0), (656, .aload_n 0, 0, 0), (657, .getfield 100, 7, 4), (660, .invokevirtual 104, 349, 1), (663, .iconst 1, 0, 0), (664, .isub, 0, 0), (665, .ireturn, 0, 0), (666, .iload 4, 0, 0), (668, .aload_n 0, 0, 0), (669, .getfield 91, 7, 0), (672, .invokestatic 97, 382, 2), (675, .istore 9, 0, 0), (677, .iload_n 3, 0, 0), (678, .bipush 9, 0, 0), (680, .idiv, 0, 0), (681, .aload_n 0, 0, 0), (682, .getfield 91, 7, 0), (685, .invokestatic 97, 382, 2), (688, .istore 10, 0, 0), (690, .iload 4, 0, 0), (692, .iconst 5, 0, 0), (693, .idiv, 0, 0), (694, .iconst 0, 0, 0), (695, .bipush 64, 0, 0), (697, .invokestatic 129, 383, 3), (700, .istore 11, 0, 0), (702, .iload 8, 0, 0), (704, .aload_n 0, 0, 0), (705, .getfield 100, 7, 4), (708, .invokevirtual 104, 349, 1), (711, .if_icmp .eq 21, 732, 0), (714, .iload 9, 0, 0), (716, .aload_n 0, 0, 0), (717, .getfield 91, 7, 0), (720, .if_icmp .eq 12, 732, 0), (723, .iload 10, 0, 0), (725, .aload_n 0, 0, 0), (726, .getfield 91, 7, 0), (729, .if_icmp .ne 6, 735, 0), (732, .ldc 52, 0, 3294967295), (734, .ireturn, 0, 0), (735, .aload_n 0, 0, 0), (736, .getfield 100, 7, 4), (739, .iload 8, 0, 0), (741, .invokevirtual 155, 352, 2), (744, .checkcast 159, 100, 0), (747, .astore 12, 0, 0), (749, .iload 11, 0, 0), (751, .iconst 0, 0, 0), (752, .bipush 64, 0, 0), (754, .invokestatic 133, 384, 3), (757, .ifCond .eq 12, 769, 0)]
def am_e385_6 : List AEn := [(760, .aload 12, 0, 0), (762, .iconst 0, 0, 0), (763, .iaload, 0, 0), (764, .iload 9, 0, 0), (766, .if_icmp .ne 6, 772, 0), (769, .ldc 29, 0, 3294967294), (771, .ireturn, 0, 0), (772, .aload 12, 0, 0), (774, .iconst 1, 0, 0), (775, .iload 9, 0, 0), (777, .iadd, 0, 0), (778, .iaload, 0, 0), (779, .istore 13, 0, 0), (781, .aload 12, 0, 0), (783, .iconst 1, 0, 0), (784, .iload 9, 0, 0), (786, .iadd, 0, 0), (787, .iload 11, 0, 0), (789, .iastore, 0, 0), (790, .aload 12, 0, 0), (792, .bipush 7, 0, 0), (794, .iload 9, 0, 0), (796, .iadd, 0, 0), (797, .iload 10, 0, 0), (799, .iastore, 0, 0), (800, .iload 13, 0, 0), (802, .ireturn, 0, 0), (803, .iload 8, 0, 0), (805, .aload_n 0, 0, 0), (806, .getfield 100, 7, 4), (809, .invokevirtual 104, 349, 1), (812, .if_icmp .ne 6, 818, 0), (815, .ldc 52, 0, 3294967295), (817, .ireturn, 0, 0), (818, .aload_n 0, 0, 0), (819, .getfield 100, 7, 4), (822, .iload 8, 0, 0), (824, .invokevirtual 160, 355, 2), (827, .checkcast 159, 100, 0), (830, .astore 9, 0, 0), (832, .aload_n 0, 0, 0), (833, .getfield 100, 7, 4), (836, .invokevirtual 104, 349, 1), (839, .ireturn, 0, 0)]
def am_M385 : AMe := (⟨"PebbleProofsLaw", "act", "(LPebbleProofsLaw$Yard;LPebbleProofsLaw$Why;II)I"⟩, method_23_code, 14, 4, (some .int), [], am_e385_0 ++ (am_e385_1 ++ (am_e385_2 ++ (am_e385_3 ++ (am_e385_4 ++ (am_e385_5 ++ (am_e385_6)))))))
def am_e386_0 : List AEn := [(0, .iload_n 3, 0, 0), (1, .bipush 64, 0, 0), (3, .idiv, 0, 0), (4, .istore 4, 0, 0), (6, .iload_n 3, 0, 0), (7, .aload_n 1, 0, 0), (8, .getfield 91, 7, 0), (11, .invokestatic 97, 382, 2), (14, .istore 5, 0, 0), (16, .iload 4, 0, 0), (18, .aload_n 1, 0, 0), (19, .getfield 91, 7, 0), (22, .invokestatic 97, 382, 2), (25, .istore 6, 0, 0), (27, .iload_n 3, 0, 0), (28, .aload_n 1, 0, 0), (29, .getfield 100, 7, 4), (32, .invokevirtual 104, 349, 1), (35, .invokestatic 97, 382, 2), (38, .istore 7, 0, 0), (40, .iload_n 2, 0, 0), (41, .tableswitch 205 0 14 #[75, 75, 84, 84, 93, 93, 93, 119, 145, 145, 145, 154, 161, 168, 168], 0, 75), (116, .aload_n 0, 0, 0), (117, .iload 5, 0, 0), (119, .iload 6, 0, 0), (121, .invokestatic 163, 373, 3), (124, .ireturn, 0, 0), (125, .aload_n 0, 0, 0), (126, .iload 5, 0, 0), (128, .iload 6, 0, 0), (130, .invokestatic 166, 374, 3), (133, .ireturn, 0, 0), (134, .aload_n 0, 0, 0), (135, .iload 5, 0, 0), (137, .iload 4, 0, 0), (139, .iconst 1, 0, 0), (140, .iload 4, 0, 0), (142, .iconst 4, 0, 0), (143, .irem, 0, 0), (144, .ifCond .ne 8, 152, 0), (147, .bipush 99, 0, 0), (149, .goto 4, 153, 0), (152, .iconst 5, 0, 0), (153, .invokestatic 129, 383, 3), (156, .invokestatic 168, 370, 3), (159, .ireturn, 0, 0), (160, .aload_n 0, 0, 0), (161, .iload 5, 0, 0), (163, .iload 4, 0, 0), (165, .iconst 1, 0, 0), (166, .iload 4, 0, 0), (168, .iconst 4, 0, 0), (169, .irem, 0, 0), (170, .ifCond .ne 8, 178, 0), (173, .bipush 99, 0, 0), (175, .goto 4, 179, 0), (178, .iconst 3, 0, 0), (179, .invokestatic 129, 383, 3), (182, .invokestatic 170, 375, 3), (185, .ireturn, 0, 0)]
def am_e386_1 : List AEn := [(186, .aload_n 0, 0, 0), (187, .iload 5, 0, 0), (189, .iload 6, 0, 0), (191, .invokestatic 172, 371, 3), (194, .ireturn, 0, 0), (195, .aload_n 0, 0, 0), (196, .iload 5, 0, 0), (198, .invokestatic 174, 372, 2), (201, .ireturn, 0, 0), (202, .aload_n 0, 0, 0), (203, .iload 5, 0, 0), (205, .invokestatic 176, 376, 2), (208, .ireturn, 0, 0), (209, .aload_n 0, 0, 0), (210, .iload 7, 0, 0), (212, .iload 4, 0, 0), (214, .aload_n 1, 0, 0), (215, .getfield 91, 7, 0), (218, .invokestatic 97, 382, 2), (221, .iload_n 3, 0, 0), (222, .bipush 9, 0, 0), (224, .idiv, 0, 0), (225, .aload_n 1, 0, 0), (226, .getfield 91, 7, 0), (229, .invokestatic 97, 382, 2), (232, .iload 4, 0, 0), (234, .iconst 5, 0, 0), (235, .idiv, 0, 0), (236, .iconst 0, 0, 0), (237, .bipush 64, 0, 0), (239, .invokestatic 129, 383, 3), (242, .invokestatic 178, 377, 5), (245, .ireturn, 0, 0), (246, .aload_n 0, 0, 0), (247, .iload 7, 0, 0), (249, .invokestatic 181, 378, 2), (252, .ireturn, 0, 0)]
def am_M386 : AMe := (⟨"PebbleProofsLaw", "call", "(LPebbleProofs;LPebbleProofsLaw$Yard;II)I"⟩, method_24_code, 8, 4, (some .int), [], am_e386_0 ++ (am_e386_1))
def am_e387_0 : List AEn := [(0, .aload_n 0, 0, 0), (1, .aload_n 1, 0, 0), (2, .invokestatic 210, 369, 2), (5, .ifCond .eq 24, 29, 0), (8, .aload_n 0, 0, 0), (9, .invokevirtual 214, 82, 1), (12, .iload_n 2, 0, 0), (13, .if_icmp .ne 16, 29, 0), (16, .aload_n 0, 0, 0), (17, .invokestatic 189, 368, 1), (20, .ldc 29, 0, 3294967294), (22, .if_icmp .ne 7, 29, 0), (25, .iconst 1, 0, 0), (26, .goto 4, 30, 0), (29, .iconst 0, 0, 0), (30, .ireturn, 0, 0)]
def am_M387 : AMe := (⟨"PebbleProofsLaw", "isWrong", "(LPebbleProofs;Ljava/lang/String;I)Z"⟩, method_26_code, 3, 3, (some .boolean), [], am_e387_0)
def am_e388_0 : List AEn := [(0, .aload_n 0, 0, 0), (1, .ldc 255, 1, 4), (3, .iconst 0, 0, 0), (4, .invokestatic 257, 387, 3), (7, .ifCond .eq 54, 61, 0), (10, .aload_n 0, 0, 0), (11, .ldc_w 261, 1, 5), (14, .iconst 0, 0, 0), (15, .invokestatic 257, 387, 3), (18, .ifCond .eq 43, 61, 0), (21, .aload_n 0, 0, 0), (22, .ldc_w 263, 1, 6), (25, .bipush 9, 0, 0), (27, .invokestatic 257, 387, 3), (30, .ifCond .eq 31, 61, 0), (33, .aload_n 0, 0, 0), (34, .ldc_w 265, 1, 7), (37, .bipush 9, 0, 0), (39, .invokestatic 257, 387, 3), (42, .ifCond .eq 19, 61, 0), (45, .aload_n 0, 0, 0), (46, .ldc_w 267, 1, 8), (49, .bipush 10, 0, 0), (51, .invokestatic 257, 387, 3), (54, .ifCond .eq 7, 61, 0), (57, .iconst 1, 0, 0), (58, .goto 4, 62, 0), (61, .iconst 0, 0, 0), (62, .istore_n 1, 0, 0), (63, .iload_n 1, 0, 0), (64, .ifCond .eq 67, 131, 0), (67, .aload_n 0, 0, 0), (68, .ldc_w 269, 1, 9), (71, .bipush 11, 0, 0), (73, .invokestatic 257, 387, 3), (76, .ifCond .eq 55, 131, 0), (79, .aload_n 0, 0, 0), (80, .ldc_w 271, 1, 10), (83, .bipush 18, 0, 0), (85, .invokestatic 257, 387, 3), (88, .ifCond .eq 43, 131, 0), (91, .aload_n 0, 0, 0), (92, .ldc_w 273, 1, 11), (95, .bipush 20, 0, 0), (97, .invokestatic 257, 387, 3), (100, .ifCond .eq 31, 131, 0), (103, .aload_n 0, 0, 0), (104, .ldc_w 275, 1, 12), (107, .bipush 18, 0, 0), (109, .invokestatic 257, 387, 3), (112, .ifCond .eq 19, 131, 0), (115, .aload_n 0, 0, 0), (116, .ldc_w 277, 1, 13), (119, .bipush 17, 0, 0), (121, .invokestatic 257, 387, 3), (124, .ifCond .eq 7, 131, 0), (127, .iconst 1, 0, 0), (128, .goto 4, 132, 0), (131, .iconst 0, 0, 0), (132, .istore_n 1, 0, 0)]
def am_e388_1 : List AEn := [(133, .iload_n 1, 0, 0), (134, .ifCond .eq 67, 201, 0), (137, .aload_n 0, 0, 0), (138, .ldc_w 279, 1, 14), (141, .bipush 18, 0, 0), (143, .invokestatic 257, 387, 3), (146, .ifCond .eq 55, 201, 0), (149, .aload_n 0, 0, 0), (150, .ldc_w 281, 1, 15), (153, .bipush 16, 0, 0), (155, .invokestatic 257, 387, 3), (158, .ifCond .eq 43, 201, 0), (161, .aload_n 0, 0, 0), (162, .ldc_w 283, 1, 16), (165, .bipush 22, 0, 0), (167, .invokestatic 257, 387, 3), (170, .ifCond .eq 31, 201, 0), (173, .aload_n 0, 0, 0), (174, .ldc_w 285, 1, 17), (177, .bipush 35, 0, 0), (179, .invokestatic 257, 387, 3), (182, .ifCond .eq 19, 201, 0), (185, .aload_n 0, 0, 0), (186, .ldc_w 287, 1, 18), (189, .bipush 11, 0, 0), (191, .invokestatic 257, 387, 3), (194, .ifCond .eq 7, 201, 0), (197, .iconst 1, 0, 0), (198, .goto 4, 202, 0), (201, .iconst 0, 0, 0), (202, .istore_n 1, 0, 0), (203, .iload_n 1, 0, 0), (204, .ifCond .eq 55, 259, 0), (207, .aload_n 0, 0, 0), (208, .ldc_w 289, 1, 19), (211, .bipush 34, 0, 0), (213, .invokestatic 257, 387, 3), (216, .ifCond .eq 43, 259, 0), (219, .aload_n 0, 0, 0), (220, .ldc_w 291, 1, 20), (223, .bipush 9, 0, 0), (225, .invokestatic 257, 387, 3), (228, .ifCond .eq 31, 259, 0), (231, .aload_n 0, 0, 0), (232, .ldc_w 293, 1, 21), (235, .bipush 19, 0, 0), (237, .invokestatic 257, 387, 3), (240, .ifCond .eq 19, 259, 0), (243, .aload_n 0, 0, 0), (244, .ldc_w 295, 1, 22), (247, .bipush 77, 0, 0), (249, .invokestatic 257, 387, 3), (252, .ifCond .eq 7, 259, 0), (255, .iconst 1, 0, 0), (256, .goto 4, 260, 0), (259, .iconst 0, 0, 0), (260, .ireturn, 0, 0)]
def am_M388 : AMe := (⟨"PebbleProofsLaw", "texts", "(LPebbleProofs;)Z"⟩, method_27_code, 2, 1, (some .boolean), [], am_e388_0 ++ (am_e388_1))
def am_e389_0 : List AEn := [(0, .new 15, 5, 0), (3, .dup, 0, 0), (4, .invokespecial 183, 79, 1), (7, .astore_n 1, 0, 0), (8, .aload_n 1, 0, 0), (9, .invokestatic 184, 379, 1), (12, .ldc 22, 0, 3294967293), (14, .if_icmp .ne 49, 63, 0), (17, .aload_n 1, 0, 0), (18, .invokestatic 187, 380, 1), (21, .ldc 22, 0, 3294967293), (23, .if_icmp .ne 40, 63, 0), (26, .aload_n 1, 0, 0), (27, .invokestatic 189, 368, 1), (30, .ldc 29, 0, 3294967294), (32, .if_icmp .ne 31, 63, 0), (35, .aload_n 1, 0, 0), (36, .iconst 3, 0, 0), (37, .iconst 0, 0, 0), (38, .invokestatic 172, 371, 3), (41, .ldc 52, 0, 3294967295), (43, .if_icmp .ne 20, 63, 0), (46, .aload_n 1, 0, 0), (47, .invokevirtual 191, 97, 1), (50, .ifCond .ne 13, 63, 0), (53, .invokestatic 194, 308, 0), (56, .aload_n 1, 0, 0), (57, .invokevirtual 198, 317, 2), (60, .ifCond .ne 5, 65, 0), (63, .iconst 0, 0, 0), (64, .ireturn, 0, 0), (65, .aload_n 0, 0, 0), (66, .invokestatic 202, 309, 1), (69, .astore_n 2, 0, 0), (70, .aload_n 1, 0, 0), (71, .aload_n 2, 0, 0), (72, .invokevirtual 206, 310, 1), (75, .invokestatic 210, 369, 2), (78, .ifCond .eq 30, 108, 0), (81, .aload_n 1, 0, 0), (82, .invokevirtual 214, 82, 1), (85, .iconst (-1), 0, 0), (86, .if_icmp .ne 22, 108, 0), (89, .aload_n 1, 0, 0), (90, .invokestatic 189, 368, 1), (93, .aload_n 2, 0, 0), (94, .getfield 91, 7, 0), (97, .if_icmp .ne 11, 108, 0), (100, .aload_n 2, 0, 0), (101, .aload_n 1, 0, 0), (102, .invokevirtual 198, 317, 2), (105, .ifCond .ne 5, 110, 0), (108, .iconst 0, 0, 0), (109, .ireturn, 0, 0), (110, .new 105, 10, 0), (113, .dup, 0, 0), (114, .invokespecial 217, 346, 1), (117, .astore_n 3, 0, 0), (118, .aconst_null, 0, 0), (119, .astore 4, 0, 0)]
def am_e389_1 : List AEn := [(121, .new 114, 6, 0), (124, .dup, 0, 0), (125, .invokespecial 218, 300, 1), (128, .astore 5, 0, 0), (130, .iconst 0, 0, 0), (131, .istore 6, 0, 0), (133, .iload 6, 0, 0), (135, .bipush 60, 0, 0), (137, .if_icmp .ge 310, 447, 0), (140, .aload_n 0, 0, 0), (141, .iconst 3, 0, 0), (142, .iload 6, 0, 0), (144, .bipush 40, 0, 0), (146, .irem, 0, 0), (147, .iadd, 0, 0), (148, .ldc 219, 0, 1000000000), (150, .invokestatic 220, 366, 3), (153, .sipush 983, 0, 0), (156, .iload 6, 0, 0), (158, .imul, 0, 0), (159, .iadd, 0, 0), (160, .istore 7, 0, 0), (162, .iload 7, 0, 0), (164, .bipush 13, 0, 0), (166, .irem, 0, 0), (167, .ifCond .ne 148, 315, 0), (170, .iload 7, 0, 0), (172, .bipush 13, 0, 0), (174, .idiv, 0, 0), (175, .iconst 4, 0, 0), (176, .irem, 0, 0), (177, .iconst 2, 0, 0), (178, .if_icmp .ge 54, 232, 0), (181, .aload_n 1, 0, 0), (182, .invokestatic 184, 379, 1), (185, .aload_n 3, 0, 0), (186, .invokevirtual 224, 350, 1), (189, .ifCond .eq 8, 197, 0), (192, .ldc 22, 0, 3294967293), (194, .goto 9, 203, 0), (197, .aload_n 3, 0, 0), (198, .invokevirtual 104, 349, 1), (201, .iconst 1, 0, 0), (202, .isub, 0, 0), (203, .if_icmp .eq 5, 208, 0), (206, .iconst 0, 0, 0), (207, .ireturn, 0, 0), (208, .aload_n 3, 0, 0), (209, .invokevirtual 224, 350, 1), (212, .ifCond .ne 196, 408, 0), (215, .aload_n 3, 0, 0), (216, .aload_n 3, 0, 0), (217, .invokevirtual 104, 349, 1), (220, .iconst 1, 0, 0), (221, .isub, 0, 0), (222, .invokevirtual 160, 355, 2), (225, .checkcast 92, 7, 0), (228, .astore_n 2, 0, 0), (229, .goto 179, 408, 0), (232, .iload 7, 0, 0)]
def am_e389_2 : List AEn := [(234, .bipush 13, 0, 0), (236, .idiv, 0, 0), (237, .iconst 4, 0, 0), (238, .irem, 0, 0), (239, .iconst 2, 0, 0), (240, .if_icmp .ne 29, 269, 0), (243, .aload_n 1, 0, 0), (244, .invokevirtual 227, 95, 1), (247, .aload_n 2, 0, 0), (248, .getfield 91, 7, 0), (251, .if_icmp .eq 5, 256, 0), (254, .iconst 0, 0, 0), (255, .ireturn, 0, 0), (256, .new 92, 7, 0), (259, .dup, 0, 0), (260, .aload_n 2, 0, 0), (261, .invokespecial 230, 303, 2), (264, .astore 4, 0, 0), (266, .goto 142, 408, 0), (269, .aload_n 1, 0, 0), (270, .invokestatic 187, 380, 1), (273, .aload 4, 0, 0), (275, .ifnonnull 8, 283, 0), (278, .ldc 22, 0, 3294967293), (280, .goto 8, 288, 0), (283, .aload 4, 0, 0), (285, .getfield 91, 7, 0), (288, .if_icmp .eq 5, 293, 0), (291, .iconst 0, 0, 0), (292, .ireturn, 0, 0), (293, .aload 4, 0, 0), (295, .ifnull 113, 408, 0), (298, .new 92, 7, 0), (301, .dup, 0, 0), (302, .aload 4, 0, 0), (304, .invokespecial 230, 303, 2), (307, .astore_n 2, 0, 0), (308, .aload_n 3, 0, 0), (309, .invokevirtual 233, 357, 1), (312, .goto 96, 408, 0), (315, .new 92, 7, 0), (318, .dup, 0, 0), (319, .aload_n 2, 0, 0), (320, .invokespecial 230, 303, 2), (323, .astore 8, 0, 0), (325, .iload 7, 0, 0), (327, .bipush 13, 0, 0), (329, .idiv, 0, 0), (330, .bipush 16, 0, 0), (332, .irem, 0, 0), (333, .istore 9, 0, 0), (335, .aload_n 2, 0, 0), (336, .aload 5, 0, 0), (338, .iload 9, 0, 0), (340, .iload 7, 0, 0), (342, .sipush 208, 0, 0), (345, .idiv, 0, 0), (346, .invokestatic 236, 385, 4), (349, .istore 10, 0, 0), (351, .aload_n 1, 0, 0)]
def am_e389_3 : List AEn := [(352, .aload 8, 0, 0), (354, .iload 9, 0, 0), (356, .iload 7, 0, 0), (358, .sipush 208, 0, 0), (361, .idiv, 0, 0), (362, .invokestatic 240, 386, 4), (365, .iload 10, 0, 0), (367, .if_icmp .eq 5, 372, 0), (370, .iconst 0, 0, 0), (371, .ireturn, 0, 0), (372, .iload 10, 0, 0), (374, .invokestatic 244, 381, 1), (377, .ifCond .eq 9, 386, 0), (380, .aload 8, 0, 0), (382, .astore_n 2, 0, 0), (383, .goto 25, 408, 0), (386, .aload_n 3, 0, 0), (387, .invokevirtual 104, 349, 1), (390, .bipush 10, 0, 0), (392, .if_icmp .ne 9, 401, 0), (395, .aload_n 3, 0, 0), (396, .iconst 0, 0, 0), (397, .invokevirtual 160, 355, 2), (400, .pop, 0, 0), (401, .aload_n 3, 0, 0), (402, .aload 8, 0, 0), (404, .invokevirtual 151, 354, 2), (407, .pop, 0, 0), (408, .aload_n 2, 0, 0), (409, .aload_n 1, 0, 0), (410, .invokevirtual 198, 317, 2), (413, .ifCond .eq 26, 439, 0), (416, .aload_n 1, 0, 0), (417, .invokevirtual 247, 94, 1), (420, .aload_n 3, 0, 0), (421, .invokevirtual 104, 349, 1), (424, .if_icmp .ne 15, 439, 0), (427, .aload_n 1, 0, 0), (428, .invokevirtual 191, 97, 1), (431, .aload 5, 0, 0), (433, .getfield 250, 6, 0), (436, .if_icmp .eq 5, 441, 0), (439, .iconst 0, 0, 0), (440, .ireturn, 0, 0), (441, .iinc 6 1, 0, 0), (444, .goto (-311), 133, 0), (447, .aload_n 1, 0, 0), (448, .invokestatic 252, 388, 1), (451, .ifCond .eq 15, 466, 0), (454, .aload_n 2, 0, 0), (455, .aload_n 1, 0, 0), (456, .invokevirtual 198, 317, 2), (459, .ifCond .eq 7, 466, 0), (462, .iconst 1, 0, 0), (463, .goto 4, 467, 0), (466, .iconst 0, 0, 0), (467, .ireturn, 0, 0)]
def am_M389 : AMe := (⟨"PebbleProofsLaw", "law", "([I)Z"⟩, code, 11, 1, (some .boolean), [], am_e389_0 ++ (am_e389_1 ++ (am_e389_2 ++ (am_e389_3))))
def am_e400_0 : List AEn := [(0, .aload_n 1, 0, 0), (1, .ifnonnull 8, 9, 0), (4, .aload_n 0, 0, 0), (5, .invokevirtual 204, 999, 1), (8, .areturn, 0, 0), (9, .aload_n 1, 0, 0), (10, .invokevirtual 32, 255, 1), (13, .istore_n 2, 0, 0), (14, .aload_n 0, 0, 0), (15, .aload_n 0, 0, 0), (16, .getfield 79, 9, 3), (19, .iload_n 2, 0, 0), (20, .iadd, 0, 0), (21, .invokevirtual 100, 320, 2), (24, .aload_n 0, 0, 0), (25, .aload_n 0, 0, 0), (26, .getfield 79, 9, 3), (29, .aload_n 1, 0, 0), (30, .invokevirtual 208, 325, 3), (33, .aload_n 0, 0, 0), (34, .dup, 0, 0), (35, .getfield 79, 9, 3), (38, .iload_n 2, 0, 0), (39, .iadd, 0, 0), (40, .putfield 79, 9, 3), (43, .aload_n 0, 0, 0), (44, .areturn, 0, 0)]
def am_M400 : AMe := (⟨"java/lang/AbstractStringBuilder", "append", "(Ljava/lang/String;)Ljava/lang/AbstractStringBuilder;"⟩, prog_12_method_22_code, 3, 1, (some (.object "java/lang/AbstractStringBuilder")), [], am_e400_0)
def am_e401_0 : List AEn := [(0, .aload_n 0, 0, 0), (1, .aload_n 0, 0, 0), (2, .getfield 79, 9, 3), (5, .iconst 1, 0, 0), (6, .iadd, 0, 0), (7, .invokevirtual 100, 320, 2), (10, .aload_n 0, 0, 0), (11, .invokevirtual 83, 323, 1), (14, .ifCond .eq 31, 45, 0), (17, .iload_n 1, 0, 0), (18, .invokestatic 191, 339, 1), (21, .ifCond .eq 24, 45, 0), (24, .aload_n 0, 0, 0), (25, .getfield 15, 9, 0), (28, .aload_n 0, 0, 0), (29, .dup, 0, 0), (30, .getfield 79, 9, 3), (33, .dup_x1, 0, 0), (34, .iconst 1, 0, 0), (35, .iadd, 0, 0), (36, .putfield 79, 9, 3), (39, .iload_n 1, 0, 0), (40, .i2b, 0, 0), (41, .bastore, 0, 0), (42, .goto 33, 75, 0), (45, .aload_n 0, 0, 0), (46, .invokevirtual 83, 323, 1), (49, .ifCond .eq 7, 56, 0), (52, .aload_n 0, 0, 0), (53, .invokevirtual 195, 999, 1), (56, .aload_n 0, 0, 0), (57, .getfield 15, 9, 0), (60, .aload_n 0, 0, 0), (61, .dup, 0, 0), (62, .getfield 79, 9, 3), (65, .dup_x1, 0, 0), (66, .iconst 1, 0, 0), (67, .iadd, 0, 0), (68, .putfield 79, 9, 3), (71, .iload_n 1, 0, 0), (72, .invokestatic 197, 999, 3), (75, .aload_n 0, 0, 0), (76, .areturn, 0, 0)]
def am_M401 : AMe := (⟨"java/lang/AbstractStringBuilder", "append", "(C)Ljava/lang/AbstractStringBuilder;"⟩, prog_12_method_31_code, 2, 1, (some (.object "java/lang/AbstractStringBuilder")), [], am_e401_0)
def am_e402_0 : List AEn := [(0, .aload_n 0, 0, 0), (1, .getfield 79, 9, 3), (4, .istore_n 2, 0, 0), (5, .iload_n 2, 0, 0), (6, .iload_n 1, 0, 0), (7, .invokestatic 245, 327, 1), (10, .iadd, 0, 0), (11, .istore_n 3, 0, 0), (12, .aload_n 0, 0, 0), (13, .iload_n 3, 0, 0), (14, .invokevirtual 100, 320, 2), (17, .aload_n 0, 0, 0), (18, .invokevirtual 83, 323, 1), (21, .ifCond .eq 16, 37, 0), (24, .iload_n 1, 0, 0), (25, .iload_n 3, 0, 0), (26, .aload_n 0, 0, 0), (27, .getfield 15, 9, 0), (30, .invokestatic 248, 326, 3), (33, .pop, 0, 0), (34, .goto 14, 48, 0), (37, .iload_n 1, 0, 0), (38, .iload_n 2, 0, 0), (39, .iload_n 3, 0, 0), (40, .aload_n 0, 0, 0), (41, .getfield 15, 9, 0), (44, .invokestatic 251, 999, 4), (47, .pop, 0, 0), (48, .aload_n 0, 0, 0), (49, .iload_n 3, 0, 0), (50, .putfield 79, 9, 3), (53, .aload_n 0, 0, 0), (54, .areturn, 0, 0)]
def am_M402 : AMe := (⟨"java/lang/AbstractStringBuilder", "append", "(I)Ljava/lang/AbstractStringBuilder;"⟩, prog_12_method_32_code, 4, 1, (some (.object "java/lang/AbstractStringBuilder")), [], am_e402_0)
def am_e403_0 : List AEn := [(0, .aload_n 0, 0, 0), (1, .getfield 79, 9, 3), (4, .ireturn, 0, 0)]
def am_M403 : AMe := (⟨"java/lang/AbstractStringBuilder", "length", "()I"⟩, prog_12_method_6_code, 1, 0, (some .int), [], am_e403_0)
def am_look : List (Nat × AMe) → Nat → Option AMe
  | [], _ => none
  | q :: l, i => if q.1 = i then some q.2 else am_look l i
def am_pl0 : List (Nat × AMe) := [(0, am_M0), (1, am_M1), (2, am_M2), (3, am_M3), (4, am_M4), (5, am_M5), (6, am_M6), (7, am_M7), (8, am_M8), (9, am_M9), (10, am_M10), (11, am_M11), (12, am_M12), (13, am_M13), (14, am_M14), (15, am_M15), (18, am_M18), (22, am_M22), (23, am_M23), (24, am_M24)]
def am_pl1 : List (Nat × AMe) := [(25, am_M25), (26, am_M26), (27, am_M27), (28, am_M28), (29, am_M29), (36, am_M36), (37, am_M37), (38, am_M38), (39, am_M39), (40, am_M40), (41, am_M41), (42, am_M42), (43, am_M43), (44, am_M44), (45, am_M45), (46, am_M46), (47, am_M47), (48, am_M48), (49, am_M49), (50, am_M50)]
def am_pl2 : List (Nat × AMe) := [(51, am_M51), (52, am_M52), (62, am_M62), (63, am_M63), (64, am_M64), (65, am_M65), (66, am_M66), (67, am_M67), (68, am_M68), (69, am_M69), (70, am_M70), (71, am_M71), (72, am_M72), (73, am_M73), (74, am_M74), (75, am_M75), (76, am_M76), (77, am_M77), (78, am_M78), (79, am_M79)]
def am_pl3 : List (Nat × AMe) := [(80, am_M80), (81, am_M81), (82, am_M82), (83, am_M83), (84, am_M84), (85, am_M85), (86, am_M86), (87, am_M87), (88, am_M88), (89, am_M89), (90, am_M90), (91, am_M91), (92, am_M92), (93, am_M93), (94, am_M94), (95, am_M95), (96, am_M96), (97, am_M97), (98, am_M98), (99, am_M99)]
def am_pl4 : List (Nat × AMe) := [(100, am_M100), (102, am_M102), (115, am_M115), (124, am_M124), (125, am_M125), (126, am_M126), (128, am_M128), (129, am_M129), (130, am_M130), (131, am_M131), (253, am_M253), (254, am_M254), (255, am_M255), (256, am_M256), (257, am_M257), (258, am_M258), (259, am_M259), (260, am_M260), (261, am_M261), (262, am_M262)]
def am_pl5 : List (Nat × AMe) := [(300, am_M300), (301, am_M301), (302, am_M302), (303, am_M303), (304, am_M304), (305, am_M305), (306, am_M306), (307, am_M307), (308, am_M308), (309, am_M309), (310, am_M310), (311, am_M311), (312, am_M312), (313, am_M313), (314, am_M314), (315, am_M315), (316, am_M316), (317, am_M317), (318, am_M318), (319, am_M319)]
def am_pl6 : List (Nat × AMe) := [(320, am_M320), (321, am_M321), (322, am_M322), (323, am_M323), (324, am_M324), (325, am_M325), (326, am_M326), (327, am_M327), (328, am_M328), (329, am_M329), (330, am_M330), (331, am_M331), (332, am_M332), (333, am_M333), (334, am_M334), (335, am_M335), (336, am_M336), (337, am_M337), (338, am_M338), (339, am_M339)]
def am_pl7 : List (Nat × AMe) := [(340, am_M340), (341, am_M341), (342, am_M342), (343, am_M343), (344, am_M344), (345, am_M345), (346, am_M346), (347, am_M347), (348, am_M348), (349, am_M349), (350, am_M350), (351, am_M351), (352, am_M352), (353, am_M353), (354, am_M354), (355, am_M355), (356, am_M356), (357, am_M357), (358, am_M358), (359, am_M359)]
def am_pl8 : List (Nat × AMe) := [(360, am_M360), (361, am_M361), (362, am_M362), (363, am_M363), (364, am_M364), (365, am_M365), (366, am_M366), (367, am_M367), (368, am_M368), (369, am_M369), (370, am_M370), (371, am_M371), (372, am_M372), (373, am_M373), (374, am_M374), (375, am_M375), (376, am_M376), (377, am_M377), (378, am_M378), (379, am_M379)]
def am_pl9 : List (Nat × AMe) := [(380, am_M380), (381, am_M381), (382, am_M382), (383, am_M383), (384, am_M384), (385, am_M385), (386, am_M386), (387, am_M387), (388, am_M388), (400, am_M400), (401, am_M401), (402, am_M402), (403, am_M403)]
def am_prog (i : Nat) : Option AMe := if i < 25 then am_look am_pl0 i else if i < 51 then am_look am_pl1 i else if i < 80 then am_look am_pl2 i else if i < 100 then am_look am_pl3 i else if i < 300 then am_look am_pl4 i else if i < 320 then am_look am_pl5 i else if i < 340 then am_look am_pl6 i else if i < 360 then am_look am_pl7 i else if i < 380 then am_look am_pl8 i else am_look am_pl9 i
/-- where the class PebbleProofs has the exceptions' constructors -/
def am_ic : Nat → Nat
  | 0 => 76
  | 1 => 86
  | _ => 292
/-- the texts that are looked at: their bytes -/
def am_tx : Nat → List Int32
  | 0 => [118, 101, 114, 116, 105, 99, 101, 115]
  | 1 => [101, 100, 103, 101]
  | 2 => [112, 105, 108, 101]
  | 3 => [115, 116, 114, 97, 116, 101, 103, 121]
  | 4 => []
  | 5 => [101, 100, 103, 101, 32, 48, 32, 49]
  | 6 => [118, 101, 114, 116, 105, 99, 101, 115, 32, 48]
  | 7 => [118, 101, 114, 116, 105, 99, 101, 115, 32, 55]
  | 8 => [118, 101, 114, 116, 105, 99, 101, 115, 32, 50]
  | 9 => [118, 101, 114, 116, 105, 99, 101, 115, 32, 50, 59, 118, 101, 114, 116, 105, 99, 101, 115, 32, 50]
  | 10 => [118, 101, 114, 116, 105, 99, 101, 115, 32, 50, 59, 101, 100, 103, 101, 32, 48, 32, 48]
  | 11 => [118, 101, 114, 116, 105, 99, 101, 115, 32, 50, 59, 101, 100, 103, 101, 32, 48, 32, 49, 32, 48]
  | 12 => [118, 101, 114, 116, 105, 99, 101, 115, 32, 50, 59, 101, 100, 103, 101, 32, 48, 32, 50]
  | 13 => [118, 101, 114, 116, 105, 99, 101, 115, 32, 50, 59, 101, 100, 103, 101, 32, 48]
  | 14 => [118, 101, 114, 116, 105, 99, 101, 115, 32, 49, 59, 112, 105, 108, 101, 32, 48, 32, 49, 48, 48, 48]
  | 15 => [118, 101, 114, 116, 105, 99, 101, 115, 32, 49, 59, 112, 105, 108, 101, 32, 49, 32, 53]
  | 16 => [118, 101, 114, 116, 105, 99, 101, 115, 32, 49, 59, 115, 116, 114, 97, 116, 101, 103, 121, 32, 48, 32, 48, 32, 48, 32, 49]
  | 17 => [118, 101, 114, 116, 105, 99, 101, 115, 32, 50, 59, 101, 100, 103, 101, 32, 48, 32, 49, 59, 115, 116, 114, 97, 116, 101, 103, 121, 32, 48, 32, 49, 32, 48, 32, 54, 53]
  | 18 => [118, 101, 114, 116, 105, 99, 101, 115, 32, 49, 59]
  | 19 => [118, 101, 114, 116, 105, 99, 101, 115, 32, 50, 59, 101, 100, 103, 101, 32, 48, 32, 49, 59, 115, 116, 114, 97, 116, 101, 103, 121, 32, 48, 32, 49, 32, 48]
  | 20 => [118, 101, 114, 116, 105, 99, 101, 115, 32, 48, 48, 48, 49]
  | 21 => [118, 101, 114, 116, 105, 99, 101, 115, 32, 51, 59, 101, 100, 103, 101, 32, 48, 32, 49]
  | 22 => [118, 101, 114, 116, 105, 99, 101, 115, 32, 49, 59, 115, 116, 114, 97, 116, 101, 103, 121, 32, 48, 59, 115, 116, 114, 97, 116, 101, 103, 121, 32, 48, 59, 115, 116, 114, 97, 116, 101, 103, 121, 32, 48, 59, 115, 116, 114, 97, 116, 101, 103, 121, 32, 48, 59, 115, 116, 114, 97, 116, 101, 103, 121, 32, 48, 59, 115, 116, 114, 97, 116, 101, 103, 121, 32, 48, 59, 115, 116, 114, 97, 116, 101, 103, 121, 32, 48]
  | 23 => [118, 101, 114, 116, 105, 99, 101, 115, 32]
  | 24 => [59, 101, 100, 103, 101, 32]
  | 25 => [32, 59, 32, 112, 105, 108, 101, 32]
  | 26 => [59, 115, 116, 114, 97, 116, 101, 103, 121, 32]
  | _ => []
def am_txs : Nat → String
  | 0 => "vertices"
  | 1 => "edge"
  | 2 => "pile"
  | 3 => "strategy"
  | 4 => ""
  | 5 => "edge 0 1"
  | 6 => "vertices 0"
  | 7 => "vertices 7"
  | 8 => "vertices 2"
  | 9 => "vertices 2;vertices 2"
  | 10 => "vertices 2;edge 0 0"
  | 11 => "vertices 2;edge 0 1 0"
  | 12 => "vertices 2;edge 0 2"
  | 13 => "vertices 2;edge 0"
  | 14 => "vertices 1;pile 0 1000"
  | 15 => "vertices 1;pile 1 5"
  | 16 => "vertices 1;strategy 0 0 0 1"
  | 17 => "vertices 2;edge 0 1;strategy 0 1 0 65"
  | 18 => "vertices 1;"
  | 19 => "vertices 2;edge 0 1;strategy 0 1 0"
  | 20 => "vertices 0001"
  | 21 => "vertices 3;edge 0 1"
  | 22 => "vertices 1;strategy 0;strategy 0;strategy 0;strategy 0;strategy 0;strategy 0;strategy 0"
  | 23 => "vertices "
  | 24 => ";edge "
  | 25 => " ; pile "
  | 26 => ";strategy "
  | _ => ""
/-- where the texts stand in the classes' pools -/
def am_sr : List (String × Nat × Nat) := [("PebbleProofs$SetupText", 82, 0), ("PebbleProofs$SetupText", 91, 1), ("PebbleProofs$SetupText", 96, 2), ("PebbleProofs$SetupText", 101, 3), ("PebbleProofsLaw", 255, 4), ("PebbleProofsLaw", 261, 5), ("PebbleProofsLaw", 263, 6), ("PebbleProofsLaw", 265, 7), ("PebbleProofsLaw", 267, 8), ("PebbleProofsLaw", 269, 9), ("PebbleProofsLaw", 271, 10), ("PebbleProofsLaw", 273, 11), ("PebbleProofsLaw", 275, 12), ("PebbleProofsLaw", 277, 13), ("PebbleProofsLaw", 279, 14), ("PebbleProofsLaw", 281, 15), ("PebbleProofsLaw", 283, 16), ("PebbleProofsLaw", 285, 17), ("PebbleProofsLaw", 287, 18), ("PebbleProofsLaw", 289, 19), ("PebbleProofsLaw", 291, 20), ("PebbleProofsLaw", 293, 21), ("PebbleProofsLaw", 295, 22), ("PebbleProofsLaw$Yard", 100, 23), ("PebbleProofsLaw$Yard", 116, 24), ("PebbleProofsLaw$Yard", 121, 25), ("PebbleProofsLaw$Yard", 123, 26)]
def am_nt : Nat := 27
end
section
/-! ===== THE ABSTRACT MACHINE: a heap is a list of cells, a reference is a place in it; ids from am_SB on are things outside the world ===== -/
abbrev ASt : Type := Nat × ALs × List Value × AHp × Nat × Nat
/-- what a call comes to: the value, or the number of the exception; the heap; new cells, their slots -/
abbrev ARe : Type := (Option Value ⊕ Nat) × AHp × Nat × Nat
def am_SB : Nat := 1000000
/-- the array types: 0 int, 1 boolean, 2 byte, 3 .. references -/
def am_el : Nat → FieldType
  | 0 => .int
  | 1 => .boolean
  | 2 => .byte
  | 3 => .object "PebbleProofs$Board"
  | 4 => .object "PebbleProofs$FailingPiles"
  | 5 => .object "java/lang/Object"
  | 6 => .array .boolean
  | _ => .array .int
/-- Integer's two tables -/
def am_d1 : Nat → Int32 := fun j => Int32.ofNat (48 + j % 10)
def am_dt : Nat → Int32 := fun j => Int32.ofNat (48 + j / 10)
/-- a text's place -/
abbrev am_isT (a : Nat) : Prop := (a - (am_SB + 10)) % 2 = 0 ∧ am_SB + 10 ≤ a ∧ a < am_SB + 64
abbrev am_isB (a : Nat) : Prop := (a - (am_SB + 10)) % 2 = 1 ∧ am_SB + 10 ≤ a ∧ a < am_SB + 64
/-- rows of bytes outside the world -/
def am_oa (a : Nat) : Option (Nat × (Nat → Int32)) :=
  if am_isB a then some ((am_tx ((a - (am_SB + 10)) / 2)).length, fun j => (am_tx ((a - (am_SB + 10)) / 2)).getD j 0)
  else if a = am_SB + 3 then some (100, am_d1) else if a = am_SB + 4 then some (100, am_dt) else none
def am_kill (ls : ALs) (i : Nat) : ALs := match i with
  | 0 => ls
  | j + 1 => match ls[j]? with
    | some (some (.long _)) => ls.set j none
    | _ => ls
def am_set1 (ls : ALs) (i : Nat) (v : Value) : ALs := (am_kill ls i).set i (some v)
def am_set2 (ls : ALs) (i : Nat) (v : Value) : ALs := ((am_kill ls i).set i (some v)).set (i + 1) none
def am_clr (ls : ALs) (i : Nat) : ALs := (am_kill ls i).set i none
def am_cmp (c : ClassFile.Cond) (x y : Int32) : Bool := match c with
  | .eq => decide (x = y)
  | .ne => decide (¬ x = y)
  | .lt => decide (x < y)
  | .ge => decide (y ≤ x)
  | .gt => decide (y < x)
  | .le => decide (x ≤ y)
/-- two ints to one -/
def am_ii (f : Int32 → Int32 → Int32) (pc : Nat) (ls : ALs) (st : List Value) (h : AHp) : Option ASt := match st with
  | .int y :: .int x :: r => some (pc + 1, ls, .int (f x y) :: r, h, 0, 0)
  | _ => none
def am_ll (f : Int64 → Int64 → Int64) (pc : Nat) (ls : ALs) (st : List Value) (h : AHp) : Option ASt := match st with
  | .long y :: .long x :: r => some (pc + 1, ls, .long (f x y) :: r, h, 0, 0)
  | _ => none
def am_li (f : Int64 → Int32 → Int64) (pc : Nat) (ls : ALs) (st : List Value) (h : AHp) : Option ASt := match st with
  | .int y :: .long x :: r => some (pc + 1, ls, .long (f x y) :: r, h, 0, 0)
  | _ => none
def am_ldi (i len pc : Nat) (ls : ALs) (st : List Value) (h : AHp) : Option ASt := match ls[i]? with
  | some (some (.int x)) => some (pc + len, ls, .int x :: st, h, 0, 0)
  | _ => none
def am_ldl (i len pc : Nat) (ls : ALs) (st : List Value) (h : AHp) : Option ASt := match ls[i]? with
  | some (some (.long x)) => some (pc + len, ls, .long x :: st, h, 0, 0)
  | _ => none
def am_lda (i len pc : Nat) (ls : ALs) (st : List Value) (h : AHp) : Option ASt := match ls[i]? with
  | some (some (.ref x)) => if x = am_SB + 1 then none else some (pc + len, ls, .ref x :: st, h, 0, 0)
  | some (some .null) => some (pc + len, ls, .null :: st, h, 0, 0)
  | _ => none
def am_sti (i len pc : Nat) (ls : ALs) (st : List Value) (h : AHp) : Option ASt := match st with
  | .int x :: r => if i < ls.length then some (pc + len, am_set1 ls i (.int x), r, h, 0, 0) else none
  | _ => none
def am_stl (i len pc : Nat) (ls : ALs) (st : List Value) (h : AHp) : Option ASt := match st with
  | .long x :: r => if i + 1 < ls.length then some (pc + len, am_set2 ls i (.long x), r, h, 0, 0) else none
  | _ => none
def am_sta (i len pc : Nat) (ls : ALs) (st : List Value) (h : AHp) : Option ASt := match st with
  | .ref x :: r => if i < ls.length ∧ ¬ x = am_SB + 1 then some (pc + len, am_set1 ls i (.ref x), r, h, 0, 0) else none
  | .null :: r => if i < ls.length then some (pc + len, am_set1 ls i .null, r, h, 0, 0) else none
  | _ => none
def am_if (b : Bool) (tgt nxt : Nat) (ls : ALs) (st : List Value) (h : AHp) : Option ASt :=
  some (if b then tgt else nxt, ls, st, h, 0, 0)
def am_ldc (len pc r1 r2 : Nat) (ls : ALs) (st : List Value) (h : AHp) : Option ASt := match r1 with
  | 0 => some (pc + len, ls, .int (Int32.ofNat r2) :: st, h, 0, 0)
  | 1 => some (pc + len, ls, .ref (am_SB + 10 + 2 * r2) :: st, h, 0, 0)
  | _ => none
def am_get (pc r1 r2 : Nat) (ls : ALs) (st : List Value) (h : AHp) : Option ASt := match st with
  | .ref a :: r => if a < am_SB then
      match h[a]? with
      | some (.inr (ci, fs)) => if ci = r1 then
          match fs[r2]? with
          | some v => some (pc + 3, ls, v :: r, h, 0, 0)
          | none => none
        else none
      | _ => none
    else if am_isT a ∧ r1 = 8 then match r2 with
      | 0 => some (pc + 3, ls, .ref (a + 1) :: r, h, 0, 0)
      | 1 => some (pc + 3, ls, .int 0 :: r, h, 0, 0)
      | _ => none
    else none
  | _ => none
def am_put (pc r1 r2 : Nat) (ls : ALs) (st : List Value) (h : AHp) : Option ASt := match st with
  | v :: .ref a :: r => if a < am_SB then
      match h[a]? with
      | some (.inr (ci, fs)) => if ci = r1 ∧ r2 < fs.length ∧ fits (am_ft ci r2) v = true ∧ narrow (am_ft ci r2) v = v ∧ ¬ v = .ref (am_SB + 1) then
          some (pc + 3, ls, r, h.set a (.inr (ci, fs.set r2 v)), 0, 0)
        else none
      | _ => none
    else none
  | _ => none
def am_static (pc r1 : Nat) (ls : ALs) (st : List Value) (h : AHp) : Option ASt := match r1 with
  | 0 => some (pc + 3, ls, .int 1 :: st, h, 0, 0)
  | 1 => some (pc + 3, ls, .ref (am_SB + 1) :: st, h, 0, 0)
  | 2 => some (pc + 3, ls, .ref (am_SB + 2) :: st, h, 0, 0)
  | 3 => some (pc + 3, ls, .ref (am_SB + 3) :: st, h, 0, 0)
  | 4 => some (pc + 3, ls, .ref (am_SB + 4) :: st, h, 0, 0)
  | _ => none
/-- the script: what lies at am_SB -/
abbrev ASc : Type := Option (Nat × (Nat → Int32))
def am_iald (scr : ASc) (pc : Nat) (ls : ALs) (st : List Value) (h : AHp) : Option ASt := match st with
  | .int i :: .ref a :: r => if a < am_SB then
      match h[a]? with
      | some (.inl (0, n, .inl f)) => if 0 ≤ i.toInt ∧ i.toInt < n then some (pc + 1, ls, .int (f i.toNatClampNeg) :: r, h, 0, 0) else none
      | _ => none
    else if a = am_SB then
      match scr with
      | some (n, f) => if 0 ≤ i.toInt ∧ i.toInt < n then some (pc + 1, ls, .int (f i.toNatClampNeg) :: r, h, 0, 0) else none
      | none => none
    else none
  | _ => none
def am_bald (pc : Nat) (ls : ALs) (st : List Value) (h : AHp) : Option ASt := match st with
  | .int i :: .ref a :: r => if a < am_SB then
      match h[a]? with
      | some (.inl (t, n, .inl f)) => if (t = 1 ∨ t = 2) ∧ 0 ≤ i.toInt ∧ i.toInt < n then some (pc + 1, ls, .int (f i.toNatClampNeg) :: r, h, 0, 0) else none
      | _ => none
    else match am_oa a with
      | some (n, f) => if 0 ≤ i.toInt ∧ i.toInt < n then some (pc + 1, ls, .int (f i.toNatClampNeg) :: r, h, 0, 0) else none
      | none => none
  | _ => none
def am_aald (pc : Nat) (ls : ALs) (st : List Value) (h : AHp) : Option ASt := match st with
  | .int i :: .ref a :: r => if a < am_SB then
      match h[a]? with
      | some (.inl (t, n, .inr (.inr (.inr (.inr f))))) => if (3 ≤ t ∧ t < 8) ∧ 0 ≤ i.toInt ∧ i.toInt < n then some (pc + 1, ls, va_rf (f i.toNatClampNeg) :: r, h, 0, 0) else none
      | _ => none
    else none
  | _ => none
def am_iast (pc : Nat) (ls : ALs) (st : List Value) (h : AHp) : Option ASt := match st with
  | .int x :: .int i :: .ref a :: r => if a < am_SB then
      match h[a]? with
      | some (.inl (0, n, .inl f)) => if 0 ≤ i.toInt ∧ i.toInt < n then some (pc + 1, ls, r, h.set a (.inl (0, n, .inl (upd f i.toNatClampNeg x))), 0, 0) else none
      | _ => none
    else none
  | _ => none
def am_bast (pc : Nat) (ls : ALs) (st : List Value) (h : AHp) : Option ASt := match st with
  | .int x :: .int i :: .ref a :: r => if a < am_SB then
      match h[a]? with
      | some (.inl (t, n, .inl f)) => if (0 ≤ i.toInt ∧ i.toInt < n) ∧ ((t = 1 ∧ (x = 0 ∨ x = 1)) ∨ (t = 2 ∧ x.toInt8.toInt32 = x)) then some (pc + 1, ls, r, h.set a (.inl (t, n, .inl (upd f i.toNatClampNeg x))), 0, 0) else none
      | _ => none
    else none
  | _ => none
/-- what may be stored in an array of references: objects of the class alone; in one of Objects anything -/
def am_mayb (t : Nat) (c : AC) : Bool := match c with
  | .inr (ci, _) => decide ((t = 3 ∧ ci = 0) ∨ (t = 4 ∧ ci = 1) ∨ t = 5)
  | .inl _ => decide (t = 5)
/-- an object into an array -/
def am_aast (pc : Nat) (ls : ALs) (st : List Value) (h : AHp) : Option ASt := match st with
  | .ref v :: .int i :: .ref a :: r => if a < am_SB ∧ v < am_SB then
      match h[a]?, h[v]? with
      | some (.inl (t, n, .inr (.inr (.inr (.inr f))))), some c => if am_mayb t c = true ∧ 0 ≤ i.toInt ∧ i.toInt < n then some (pc + 1, ls, r, h.set a (.inl (t, n, .inr (.inr (.inr (.inr (va_up f i.toNatClampNeg (some v))))))), 0, 0) else none
      | _, _ => none
    else none
  | .null :: .int i :: .ref a :: r => if a < am_SB then
      match h[a]? with
      | some (.inl (t, n, .inr (.inr (.inr (.inr f))))) => if t = 5 ∧ 0 ≤ i.toInt ∧ i.toInt < n then some (pc + 1, ls, r, h.set a (.inl (t, n, .inr (.inr (.inr (.inr (va_up f i.toNatClampNeg none)))))), 0, 0) else none
      | _ => none
    else none
  | _ => none
def am_alen (scr : ASc) (pc : Nat) (ls : ALs) (st : List Value) (h : AHp) : Option ASt := match st with
  | .ref a :: r => if a < am_SB then
      match h[a]? with
      | some (.inl (t, n, _)) => if t < 8 then some (pc + 1, ls, .int (Int32.ofNat n) :: r, h, 0, 0) else none
      | _ => none
    else if a = am_SB then
      match scr with
      | some (n, _) => some (pc + 1, ls, .int (Int32.ofNat n) :: r, h, 0, 0)
      | none => none
    else if a = am_SB + 2 then some (pc + 1, ls, .int 0 :: r, h, 0, 0)
    else match am_oa a with
      | some (n, _) => some (pc + 1, ls, .int (Int32.ofNat n) :: r, h, 0, 0)
      | none => none
  | _ => none
def am_new (pc r1 : Nat) (ls : ALs) (st : List Value) (h : AHp) : Option ASt :=
  if h.length < am_SB ∧ r1 < 12 then some (pc + 3, ls, .ref h.length :: st, h ++ [.inr (r1, am_fd r1)], 1, (am_fd r1).length) else none
def am_newa (t : ArrayType) (pc : Nat) (ls : ALs) (st : List Value) (h : AHp) : Option ASt := match st with
  | .int n :: r => if h.length < am_SB ∧ 0 ≤ n.toInt ∧ n.toInt < 1000000 then
      match t with
      | .int => some (pc + 2, ls, .ref h.length :: r, h ++ [.inl (0, n.toNatClampNeg, .inl (fun _ => 0))], 1, n.toNatClampNeg)
      | .boolean => some (pc + 2, ls, .ref h.length :: r, h ++ [.inl (1, n.toNatClampNeg, .inl (fun _ => 0))], 1, n.toNatClampNeg)
      | .byte => some (pc + 2, ls, .ref h.length :: r, h ++ [.inl (2, n.toNatClampNeg, .inl (fun _ => 0))], 1, n.toNatClampNeg)
      | _ => none
    else none
  | _ => none
def am_newq (pc r1 : Nat) (ls : ALs) (st : List Value) (h : AHp) : Option ASt := match st with
  | .int n :: r => if h.length < am_SB ∧ 0 ≤ n.toInt ∧ n.toInt < 1000000 ∧ (r1 = 3 ∨ r1 = 4 ∨ r1 = 5) then
      some (pc + 3, ls, .ref h.length :: r, h ++ [.inl (r1, n.toNatClampNeg, .inr (.inr (.inr (.inr (fun _ => none)))))], 1, n.toNatClampNeg)
    else none
  | _ => none
/-- rows of rows: r1 the outer row's type; the rows are new, of zeros -/
def am_rows (t k : Nat) : Nat → List AC := fun n => List.replicate n (.inl (t, k, .inl (fun _ => 0)))
def am_newm (pc r1 : Nat) (ls : ALs) (st : List Value) (h : AHp) : Option ASt := match st with
  | .int k :: .int n :: r => if h.length + 1 + n.toNatClampNeg ≤ am_SB ∧ (0 ≤ n.toInt ∧ n.toInt < 1000) ∧ (0 ≤ k.toInt ∧ k.toInt < 1000) ∧ (r1 = 6 ∨ r1 = 7) then
      some (pc + 4, ls, .ref h.length :: r, h ++ (.inl (r1, n.toNatClampNeg, .inr (.inr (.inr (.inr (fun j => if j < n.toNatClampNeg then some (h.length + 1 + j) else none))))) :: am_rows (7 - r1) k.toNatClampNeg n.toNatClampNeg), 1 + n.toNatClampNeg, n.toNatClampNeg + n.toNatClampNeg * k.toNatClampNeg)
    else none
  | _ => none
/-- an array's copy: of ints, of bytes -/
def am_clone (t pc : Nat) (ls : ALs) (st : List Value) (h : AHp) : Option ASt := match st with
  | .ref a :: r => if a < am_SB ∧ h.length < am_SB ∧ (r.map Value.category).sum ≤ 8 then
      match h[a]? with
      | some (.inl (u, n, .inl f)) => if u = t ∧ (t = 0 ∨ (t = 2 ∧ ∀ j, j < n → (f j).toInt8.toInt32 = f j)) then some (pc + 3, ls, .ref h.length :: r, h ++ [.inl (u, n, .inl f)], 1, n) else none
      | _ => none
    else none
  | _ => none
/-- an object or array is what it is said to be -/
def am_cast (pc r1 : Nat) (ls : ALs) (st : List Value) (h : AHp) : Option ASt := match st with
  | .ref a :: r => if a < am_SB then
      match h[a]? with
      | some (.inr (ci, _)) => if ci = r1 ∧ ci = 7 then some (pc + 3, ls, .ref a :: r, h, 0, 0) else none
      | some (.inl (t, _, _)) => if r1 = 100 + t ∧ (t = 0 ∨ t = 2) then some (pc + 3, ls, .ref a :: r, h, 0, 0) else none
      | _ => none
    else none
  | _ => none
/-- one and the same -/
def am_acq (pc tgt : Nat) (ls : ALs) (st : List Value) (h : AHp) : Option ASt := match st with
  | .ref a :: .ref b :: r => if a = b ∧ ¬ a = am_SB + 1 then some (tgt, ls, r, h, 0, 0) else none
  | _ => none
def am_dup1 (pc : Nat) (ls : ALs) (st : List Value) (h : AHp) : Option ASt := match st with
  | v :: w :: r => if v.category = 1 ∧ w.category = 1 then some (pc + 1, ls, v :: w :: v :: r, h, 0, 0) else none
  | _ => none
/-- System.arraycopy: of ints, truth values, bytes (one array to another; bytes from outside too), of Objects (in one array) -/
def am_copy (pc : Nat) (ls : ALs) (st : List Value) (h : AHp) : Option ASt := match st with
  | .int n :: .int dp :: .ref a :: .int sp :: .ref b :: r => if a < am_SB ∧ (r.map Value.category).sum ≤ 8 then
      if b < am_SB then
        match h[b]?, h[a]? with
        | some (.inl (t, n0, .inl f)), some (.inl (u, n1, .inl g)) => if (t = u ∧ (t = 0 ∨ ((t = 1 ∨ t = 2) ∧ ∀ j, j < n0 → fits (am_el t) (.int (f j)) = true))) ∧ 0 ≤ sp.toInt ∧ 0 ≤ dp.toInt ∧ 0 ≤ n.toInt ∧ sp.toNatClampNeg + n.toNatClampNeg ≤ n0 ∧ dp.toNatClampNeg + n.toNatClampNeg ≤ n1 then
            some (pc + 3, ls, r, h.set a (.inl (u, n1, .inl (va_cpy f g sp.toNatClampNeg dp.toNatClampNeg n.toNatClampNeg))), 0, 0) else none
        | some (.inl (t, n0, .inr (.inr (.inr (.inr f))))), some (.inl (u, n1, .inr (.inr (.inr (.inr g))))) => if (t = 5 ∧ u = 5) ∧ 0 ≤ sp.toInt ∧ 0 ≤ dp.toInt ∧ 0 ≤ n.toInt ∧ sp.toNatClampNeg + n.toNatClampNeg ≤ n0 ∧ dp.toNatClampNeg + n.toNatClampNeg ≤ n1 then
            some (pc + 3, ls, r, h.set a (.inl (u, n1, .inr (.inr (.inr (.inr (va_cpy f g sp.toNatClampNeg dp.toNatClampNeg n.toNatClampNeg)))))), 0, 0) else none
        | _, _ => none
      else match am_oa b, h[a]? with
        | some (n0, f), some (.inl (u, n1, .inl g)) => if u = 2 ∧ 0 ≤ sp.toInt ∧ 0 ≤ dp.toInt ∧ 0 ≤ n.toInt ∧ sp.toNatClampNeg + n.toNatClampNeg ≤ n0 ∧ dp.toNatClampNeg + n.toNatClampNeg ≤ n1 then
            some (pc + 3, ls, r, h.set a (.inl (u, n1, .inl (va_cpy f g sp.toNatClampNeg dp.toNatClampNeg n.toNatClampNeg))), 0, 0) else none
        | _, _ => none
    else none
  | _ => none
def am_tsw (pc : Nat) (dflt lo hi : Int) (offs : Array Int) (ls : ALs) (st : List Value) (h : AHp) : Option ASt := match st with
  | .int x :: r => if x.toInt < lo ∨ hi < x.toInt then (if 0 ≤ (pc : Int) + dflt then some (((pc : Int) + dflt).toNat, ls, r, h, 0, 0) else none)
      else match offs[(x.toInt - lo).toNat]? with
        | some off => if 0 ≤ (pc : Int) + off then some (((pc : Int) + off).toNat, ls, r, h, 0, 0) else none
        | none => none
  | _ => none
def am_dup (pc : Nat) (ls : ALs) (st : List Value) (h : AHp) : Option ASt := match st with
  | v :: r => if v.category = 1 then some (pc + 1, ls, v :: v :: r, h, 0, 0) else none
  | _ => none
def am_dup2 (pc : Nat) (ls : ALs) (st : List Value) (h : AHp) : Option ASt := match st with
  | v :: w :: r => if v.category = 1 ∧ w.category = 1 then some (pc + 1, ls, v :: w :: v :: w :: r, h, 0, 0) else none
  | _ => none
def am_pop (pc : Nat) (ls : ALs) (st : List Value) (h : AHp) : Option ASt := match st with
  | v :: r => if v.category = 1 then some (pc + 1, ls, r, h, 0, 0) else none
  | _ => none
def am_z (c : ClassFile.Cond) (pc tgt : Nat) (ls : ALs) (st : List Value) (h : AHp) : Option ASt := match st with
  | .int x :: r => am_if (am_cmp c x 0) tgt (pc + 3) ls r h
  | _ => none
def am_c2 (c : ClassFile.Cond) (pc tgt : Nat) (ls : ALs) (st : List Value) (h : AHp) : Option ASt := match st with
  | .int y :: .int x :: r => am_if (am_cmp c x y) tgt (pc + 3) ls r h
  | _ => none
/-- null or not: tn where it goes with null, tr with a cell (outside too) -/
def am_nul (tn tr : Nat) (ls : ALs) (st : List Value) (h : AHp) : Option ASt := match st with
  | .null :: r => some (tn, ls, r, h, 0, 0)
  | .ref a :: r => if ¬ a = am_SB + 1 then some (tr, ls, r, h, 0, 0) else none
  | _ => none
def am_i1 (f : Int32 → Value) (pc : Nat) (ls : ALs) (st : List Value) (h : AHp) : Option ASt := match st with
  | .int x :: r => some (pc + 1, ls, f x :: r, h, 0, 0)
  | _ => none
def am_l2i (pc : Nat) (ls : ALs) (st : List Value) (h : AHp) : Option ASt := match st with
  | .long x :: r => some (pc + 1, ls, .int x.toInt32 :: r, h, 0, 0)
  | _ => none
def am_lcmp (pc : Nat) (ls : ALs) (st : List Value) (h : AHp) : Option ASt := match st with
  | .long y :: .long x :: r => some (pc + 1, ls, .int (lg_cmp x y) :: r, h, 0, 0)
  | _ => none
def am_dv (f : Int32 → Int32 → Int32) (pc : Nat) (ls : ALs) (st : List Value) (h : AHp) : Option ASt := match st with
  | .int y :: .int x :: r => if y = 0 then none else some (pc + 1, ls, .int (f x y) :: r, h, 0, 0)
  | _ => none
def am_inc (i : Nat) (n : Int) (pc : Nat) (ls : ALs) (st : List Value) (h : AHp) : Option ASt := match ls[i]? with
  | some (some (.int x)) => some (pc + 3, am_set1 ls i (.int (x + Int32.ofInt n)), st, h, 0, 0)
  | _ => none
/-- Math.max, Math.min -/
def am_m2 (f : Int32 → Int32 → Int32) (pc : Nat) (ls : ALs) (st : List Value) (h : AHp) : Option ASt := match st with
  | .int y :: .int x :: r => if (r.map Value.category).sum ≤ 8 then some (pc + 3, ls, .int (f x y) :: r, h, 0, 0) else none
  | _ => none
/-- Object's constructor -/
def am_obj (pc : Nat) (ls : ALs) (st : List Value) (h : AHp) : Option ASt := match st with
  | .ref a :: r => if a < am_SB ∧ (r.map Value.category).sum ≤ 8 then some (pc + 3, ls, r, h, 0, 0) else none
  | _ => none
/-- one instruction that stays in its frame -/
def am_step (scr : ASc) (E : AEn) (ls : ALs) (st : List Value) (h : AHp) : Option ASt := match E with
  | (pc, i, r1, r2) => match i with
    | .iconst v => some (pc + 1, ls, .int (Int32.ofInt v) :: st, h, 0, 0)
    | .bipush v => some (pc + 2, ls, .int (Int8.ofInt v).toInt32 :: st, h, 0, 0)
    | .sipush v => some (pc + 3, ls, .int (Int16.ofInt v).toInt32 :: st, h, 0, 0)
    | .lconst l => some (pc + 1, ls, .long (Int64.ofNat (l : Nat)) :: st, h, 0, 0)
    | .ldc _ => am_ldc 2 pc r1 r2 ls st h
    | .ldc_w _ => am_ldc 3 pc r1 r2 ls st h
    | .ldc2_w _ => some (pc + 3, ls, .long (Int64.ofNat r1) :: st, h, 0, 0)
    | .iload n => am_ldi n 2 pc ls st h
    | .iload_n n => am_ldi n 1 pc ls st h
    | .lload n => am_ldl n 2 pc ls st h
    | .lload_n n => am_ldl n 1 pc ls st h
    | .aload n => am_lda n 2 pc ls st h
    | .aload_n n => am_lda n 1 pc ls st h
    | .istore n => am_sti n 2 pc ls st h
    | .istore_n n => am_sti n 1 pc ls st h
    | .lstore n => am_stl n 2 pc ls st h
    | .lstore_n n => am_stl n 1 pc ls st h
    | .astore n => am_sta n 2 pc ls st h
    | .astore_n n => am_sta n 1 pc ls st h
    | .iinc j n => am_inc j n pc ls st h
    | .iadd => am_ii (fun x y => x + y) pc ls st h
    | .isub => am_ii (fun x y => x - y) pc ls st h
    | .imul => am_ii (fun x y => x * y) pc ls st h
    | .iand => am_ii (fun x y => x &&& y) pc ls st h
    | .ior => am_ii (fun x y => x ||| y) pc ls st h
    | .ixor => am_ii (fun x y => x ^^^ y) pc ls st h
    | .ishl => am_ii (fun x y => x <<< (y &&& 31)) pc ls st h
    | .ishr => am_ii (fun x y => x >>> (y &&& 31)) pc ls st h
    | .iushr => am_ii (fun x y => (x.toUInt32 >>> (y.toUInt32 &&& Int32.toUInt32 31)).toInt32) pc ls st h
    | .idiv => am_dv (fun x y => x / y) pc ls st h
    | .irem => am_dv (fun x y => x - x / y * y) pc ls st h
    | .ladd => am_ll (fun x y => x + y) pc ls st h
    | .lsub => am_ll (fun x y => x - y) pc ls st h
    | .land => am_ll (fun x y => x &&& y) pc ls st h
    | .lor => am_ll (fun x y => x ||| y) pc ls st h
    | .lxor => am_ll (fun x y => x ^^^ y) pc ls st h
    | .lshl => am_li (fun x y => x <<< (y.toInt64 &&& 63)) pc ls st h
    | .lshr => am_li (fun x y => x >>> (y.toInt64 &&& 63)) pc ls st h
    | .lushr => am_li (fun x y => (x.toUInt64 >>> (y.toInt64.toUInt64 &&& Int64.toUInt64 63)).toInt64) pc ls st h
    | .i2l => am_i1 (fun x => .long x.toInt64) pc ls st h
    | .i2c => am_i1 (fun x => .int (x.toUInt32 % 65536).toInt32) pc ls st h
    | .i2b => am_i1 (fun x => .int x.toInt8.toInt32) pc ls st h
    | .ineg => am_i1 (fun x => .int (-x)) pc ls st h
    | .aconst_null => some (pc + 1, ls, .null :: st, h, 0, 0)
    | .dup_x1 => am_dup1 pc ls st h
    | .if_acmp c _ => match c with
      | .eq => am_acq pc r1 ls st h
      | _ => none
    | .checkcast _ => am_cast pc r1 ls st h
    | .multianewarray _ _ => am_newm pc r1 ls st h
    | .invokevirtual _ => if r1 = 904 then am_clone 0 pc ls st h else am_clone 2 pc ls st h
    | .l2i => am_l2i pc ls st h
    | .lcmp => am_lcmp pc ls st h
    | .dup => am_dup pc ls st h
    | .dup2 => am_dup2 pc ls st h
    | .pop => am_pop pc ls st h
    | .goto _ => some (r1, ls, st, h, 0, 0)
    | .ifCond c _ => am_z c pc r1 ls st h
    | .if_icmp c _ => am_c2 c pc r1 ls st h
    | .ifnull _ => am_nul r1 (pc + 3) ls st h
    | .ifnonnull _ => am_nul (pc + 3) r1 ls st h
    | .tableswitch dflt lo hi offs => am_tsw pc dflt lo hi offs ls st h
    | .getfield _ => am_get pc r1 r2 ls st h
    | .putfield _ => am_put pc r1 r2 ls st h
    | .getstatic _ => am_static pc r1 ls st h
    | .iaload => am_iald scr pc ls st h
    | .baload => am_bald pc ls st h
    | .aaload => am_aald pc ls st h
    | .iastore => am_iast pc ls st h
    | .bastore => am_bast pc ls st h
    | .aastore => am_aast pc ls st h
    | .arraylength => am_alen scr pc ls st h
    | .new _ => am_new pc r1 ls st h
    | .newarray t => am_newa t pc ls st h
    | .anewarray _ => am_newq pc r1 ls st h
    | .invokestatic _ => if r1 = 902 then am_m2 (fun x y => if x < y then y else x) pc ls st h else if r1 = 903 then am_m2 (fun x y => if y < x then y else x) pc ls st h else am_copy pc ls st h
    | .invokespecial _ => am_obj pc ls st h
    | _ => none
/-- how long a call is -/
def am_nx : Instr → Nat
  | .invokeinterface _ _ => 5
  | _ => 3
/-- 0 stays in its frame, 1 returns, 2 calls, 3 makes an exception and throws it -/
def am_kind (i : Instr) (r1 : Nat) : Nat := match i with
  | .ireturn | .lreturn | .areturn | .return_ => 1
  | .invokestatic _ => if r1 = 900 ∨ r1 = 902 ∨ r1 = 903 then 0 else 2
  | .invokespecial _ => if r1 = 901 then 0 else 2
  | .invokevirtual _ => if r1 = 904 ∨ r1 = 905 then 0 else 2
  | .invokeinterface _ _ => 2
  | .new _ => if r1 = 1000 then 3 else 0
  | _ => 0
def am_ret (rt : Option FieldType) (i : Instr) (st : List Value) : Option (Option Value) := match i, st, rt with
  | .ireturn, [.int v], some ty => if narrow ty (.int v) = .int v then some (some (.int v)) else none
  | .lreturn, [.long v], some .long => some (some (.long v))
  | .areturn, [.ref a], some (.object _) => if a < am_SB then some (some (.ref a)) else none
  | .areturn, [.ref a], some (.array _) => if a < am_SB then some (some (.ref a)) else none
  | .areturn, [.null], some (.object _) => some (some .null)
  | .return_, [], none => some none
  | _, _, _ => none
/-- the classes of exceptions, by number -/
def am_exn : Nat → String
  | 0 => "java/lang/IllegalStateException"
  | 1 => "java/lang/IllegalArgumentException"
  | _ => "java/lang/IndexOutOfBoundsException"
def am_find : List AEn → Nat → Option AEn
  | [], _ => none
  | e :: l, pc => if e.1 = pc then some e else am_find l pc
/-- the first handler that covers a place and is of the class (none: no handler) -/
def am_hand : List (Nat × Nat × Nat × Nat × Nat) → Nat → Nat → Option Nat
  | [], _, _ => none
  | (a, b, hp, _, j) :: l, pc, X => if a ≤ pc ∧ pc < b ∧ j = X then some hp else am_hand l pc X
/-- the arguments of a call (n of them with the object), and what is left below -/
def am_args (n : Nat) (st : List Value) : Option (List Value × List Value) :=
  if n ≤ st.length ∧ ((st.drop n).map Value.category).sum ≤ 8 then some ((st.take n).reverse, st.drop n) else none
/-- the object of a call is of the class (a StringBuilder for its parent class too); a text of String; methods from 400 on are called for the parent class -/
def am_recv (i : Instr) (r1 : Nat) (C : String) (as : List Value) (h : AHp) : Bool := match i with
  | .invokestatic _ => true
  | .invokespecial _ => match as with
    | .ref a :: _ => if 400 ≤ r1 then decide (a < am_SB) && (match h[a]? with
        | some (.inr (ci, _)) => decide (ci = 9)
        | _ => false) else decide (a < am_SB)
    | _ => false
  | .invokevirtual _ => match as with
    | .ref a :: _ => if a < am_SB then
        match h[a]? with
        | some (.inr (ci, _)) => decide (am_cn ci = C ∨ (ci = 9 ∧ C = "java/lang/AbstractStringBuilder"))
        | _ => false
      else decide (am_isT a ∧ C = "java/lang/String")
    | _ => false
  | .invokeinterface _ _ => match as with
    | .ref a :: _ => decide (a < am_SB) && (match h[a]? with
        | some (.inr (ci, _)) => decide (am_cn ci = C)
        | _ => false)
    | _ => false
  | _ => false
/-- behind a handler's first instruction, which keeps the exception in a local -/
def am_land (M : AMe) (hp : Nat) (ls : ALs) : Option (Nat × ALs) := match am_find M.2.2.2.2.2.2 hp with
  | some (_, .astore_n i, _, _) => if i < ls.length then some (hp + 1, am_clr ls i) else none
  | some (_, .astore i, _, _) => if i < ls.length then some (hp + 2, am_clr ls i) else none
  | _ => none
def am_exec (cf : Nat → List Value → AHp → Option ARe) (M : AMe) (d : Nat) (scr : ASc) : Nat → ASt → Option ARe
  | 0, _ => none
  | f + 1, (pc, ls, st, h, k, n) => match am_find M.2.2.2.2.2.2 pc with
    | none => none
    | some E => match am_kind E.2.1 E.2.2.1 with
      | 0 => match am_step scr E ls st h with
        | none => none
        | some (pc', ls', st', h', dk, dn) => am_exec cf M d scr f (pc', ls', st', h', k + dk, n + dn)
      | 1 => match am_ret M.2.2.2.2.1 E.2.1 st with
        | none => none
        | some v => some (.inl v, h, k, n)
      | 2 => match am_args E.2.2.2 st, am_prog E.2.2.1 with
        | some (as, rest), some Y => if am_recv E.2.1 E.2.2.1 Y.1.cls as h = true then
            match cf E.2.2.1 as h with
            | none => none
            | some (.inl v, h', dk, dn) => am_exec cf M d scr f (pc + am_nx E.2.1, ls, v.toList ++ rest, h', k + dk, n + dn)
            | some (.inr X, h', dk, dn) => match M.2.2.2.2.2.1 with
              | [] => some (.inr X, h', k + dk, n + dn)
              | q :: l => match am_hand (q :: l) pc X with
                | none => none
                | some hp => match am_land M hp ls with
                  | none => none
                  | some (pc', ls') => am_exec cf M d scr f (pc', ls', [], h', k + dk, n + dn)
          else none
        | _, _ => none
      | _ => if 7 ≤ d ∧ E.2.2.2 < 3 ∧ (st.map Value.category).sum ≤ 8 ∧ M.2.2.2.2.2.1 = [] then some (.inr E.2.2.2, h, k + 1, n + 6) else none
def am_slots (vs : List Value) : ALs := vs.flatMap fun v => if v.category = 2 then [some v, none] else [some v]
def am_entry (nL : Nat) (vs : List Value) : ALs := am_slots vs ++ List.replicate (nL - (am_slots vs).length) none
def am_call (scr : ASc) : Nat → Nat → Nat → List Value → AHp → Option ARe
  | 0, _, _, _, _ => none
  | 1, _, _, _, _ => none
  | d + 2, f, mi, as, h => match am_prog mi with
    | none => none
    | some M => if (am_slots as).length ≤ M.2.2.1 then am_exec (am_call scr (d + 1) f) M (d + 1) scr f (0, am_entry M.2.2.1 as, [], h, 0, 0) else none
end
section
/-! ===== what the abstract machine's things are on the machine ===== -/
abbrev AK : Type := Nat × va_G × (Nat → ClassId) × (Nat → Nat) × (Nat → Nat)
def am_A (k : AK) : Nat → Prop := fun q => k.1 ≤ q
/-- what is outside: b the script, adK the texts, adV their bytes (at 100 and behind: the empty row of Objects, Integer's two tables) -/
def am_X (k : AK) (b : Nat) (i : Nat) (w : Value) : Prop :=
  if i = am_SB then w = .ref b else if i = am_SB + 1 then (w = .null ∨ ∃ a, w = .ref a) else if i < am_SB + 5 then w = .ref (k.2.2.2.2 (100 + (i - (am_SB + 2)))) else if (i - (am_SB + 10)) % 2 = 0 then w = .ref (k.2.2.2.1 ((i - (am_SB + 10)) / 2)) else w = .ref (k.2.2.2.2 ((i - (am_SB + 10)) / 2))
def am_RV (X : Nat → Value → Prop) (as : List Nat) (v w : Value) : Prop := match v with
  | .int x => w = .int x
  | .long x => w = .long x
  | .null => w = .null
  | .ref i => if i < am_SB then ∃ a, as[i]? = some a ∧ w = .ref a else X i w
  | _ => False
def am_RS (X : Nat → Value → Prop) (as : List Nat) : List Value → List Value → Prop
  | [], [] => True
  | v :: s, w :: t => am_RV X as v w ∧ am_RS X as s t
  | _, _ => False
def am_RL (X : Nat → Value → Prop) (as : List Nat) (nL : Nat) (ls : ALs) (ls' : Array Slot) : Prop :=
  ls'.size = nL ∧ ls.length = nL ∧ lv_wf ls' ∧ ∀ (i : Nat) (v : Value), ls[i]? = some (some v) → ∃ w : Value, am_RV X as v w ∧ ls'[i]? = some (Slot.val w)
abbrev AVc : Type := (Nat → Int32) ⊕ (Nat → Int64) ⊕ (Nat → UInt32) ⊕ (Nat → UInt64) ⊕ (Nat → Option Nat)
def am_RA (as : List Nat) (a b : AVc) : Prop := match a, b with
  | .inl f, .inl g => f = g
  | .inr (.inl f), .inr (.inl g) => f = g
  | .inr (.inr (.inr (.inr f))), .inr (.inr (.inr (.inr g))) => ∀ j, (f j = none → g j = none) ∧ ∀ i, f j = some i → i < am_SB ∧ ∃ q, as[i]? = some q ∧ g j = some q
  | _, _ => False
def am_RC (X : Nat → Value → Prop) (G : Nat → ClassId) (as : List Nat) (c : AC) (e : va_E) : Prop := match c, e with
  | .inl (t, n, a), .inl (cA, m, b) => cA = G t ∧ n = m ∧ t < 8 ∧ am_RA as a b
  | .inr (ci, fs), .inr (cj, gs) => ci = cj ∧ am_RS X as fs gs
  | _, _ => False
def am_RW (X : Nat → Value → Prop) (G : Nat → ClassId) (as : List Nat) (h : AHp) (ws : va_W) : Prop :=
  as.length = h.length ∧ ws.length = h.length ∧ h.length ≤ am_SB ∧ ∀ (i : Nat) (c : AC), h[i]? = some c → ∃ q e, as[i]? = some q ∧ ws[i]? = some (q, e) ∧ am_RC X G as c e
def am_tys (G : Nat → ClassId) : List (ClassId × FieldType) := [(G 0, am_el 0), (G 1, am_el 1), (G 2, am_el 2), (G 3, am_el 3), (G 4, am_el 4), (G 5, am_el 5), (G 6, am_el 6), (G 7, am_el 7)]
def am_Rel (k : AK) (X : Nat → Value → Prop) (nL : Nat) (s : State) (as0 as : List Nat) (ws : va_W) (ls : ALs) (st : List Value) (h : AHp) (ls' : Array Slot) (st' : List Value) (H : Heap) (locs : List Loc) : Prop :=
  (∃ t, as = as0 ++ t) ∧ am_RL X as nL ls ls' ∧ am_RS X as st st' ∧ am_RW X k.2.2.1 as h ws ∧ va_P k.2.1 am_cl ws H ∧ va_D (am_A k) ws ∧ va_S (am_A k) s.heap H locs
theorem am_RV_int {X : Nat → Value → Prop} {as : List Nat} {x : Int32} {w : Value} (h : am_RV X as (.int x) w) : w = .int x := h
theorem am_RV_ref {X : Nat → Value → Prop} {as : List Nat} {i : Nat} {w : Value} (h : am_RV X as (.ref i) w) (hi : i < am_SB) : ∃ a, as[i]? = some a ∧ w = .ref a := by
  have h2 : (if i < am_SB then ∃ a, as[i]? = some a ∧ w = .ref a else X i w) := h
  rwa [if_pos hi] at h2
theorem am_RV_ext {X : Nat → Value → Prop} {as : List Nat} {i : Nat} {w : Value} (h : am_RV X as (.ref i) w) (hi : ¬ i < am_SB) : X i w := by
  have h2 : (if i < am_SB then ∃ a, as[i]? = some a ∧ w = .ref a else X i w) := h
  rwa [if_neg hi] at h2
theorem am_RV_mk {X : Nat → Value → Prop} {as : List Nat} {i a : Nat} (hi : i < am_SB) (ha : as[i]? = some a) : am_RV X as (.ref i) (.ref a) := by
  show (if i < am_SB then ∃ q, as[i]? = some q ∧ Value.ref a = .ref q else X i (.ref a))
  rw [if_pos hi]; exact ⟨a, ha, rfl⟩
theorem am_RV_mkx {X : Nat → Value → Prop} {as : List Nat} {i : Nat} {w : Value} (hi : ¬ i < am_SB) (ha : X i w) : am_RV X as (.ref i) w := by
  show (if i < am_SB then ∃ q, as[i]? = some q ∧ w = .ref q else X i w)
  rw [if_neg hi]; exact ha
theorem am_get_app {as t : List Nat} {i a : Nat} (h : as[i]? = some a) : (as ++ t)[i]? = some a := by
  rw [List.getElem?_append_left (List.getElem?_eq_some_iff.mp h).1]; exact h
theorem am_RV_app {X : Nat → Value → Prop} {as t : List Nat} {v w : Value} (h : am_RV X as v w) : am_RV X (as ++ t) v w := by
  cases v with
  | ref i =>
    by_cases hi : i < am_SB
    · obtain ⟨a, h1, rfl⟩ := am_RV_ref h hi
      exact am_RV_mk hi (am_get_app h1)
    · exact am_RV_mkx hi (am_RV_ext h hi)
  | int x => exact h
  | long x => exact h
  | null => exact h
  | float x => exact h
  | double x => exact h
  | retAddr x => exact h
theorem am_RS_app {X : Nat → Value → Prop} {as t : List Nat} : ∀ {s r : List Value}, am_RS X as s r → am_RS X (as ++ t) s r
  | [], [], _ => trivial
  | _ :: _, _ :: _, h => ⟨am_RV_app h.1, am_RS_app h.2⟩
  | [], _ :: _, h => h
  | _ :: _, [], h => h
theorem am_RL_app {X : Nat → Value → Prop} {as t : List Nat} {nL : Nat} {ls : ALs} {ls' : Array Slot} (h : am_RL X as nL ls ls') : am_RL X (as ++ t) nL ls ls' := by
  refine ⟨h.1, h.2.1, h.2.2.1, fun i v hv => ?_⟩
  obtain ⟨w, h1, h2⟩ := h.2.2.2 i v hv
  exact ⟨w, am_RV_app h1, h2⟩
theorem am_RA_app {as t : List Nat} {a b : AVc} (h : am_RA as a b) : am_RA (as ++ t) a b := by
  rcases a with f | f | f | f | f <;> rcases b with g | g | g | g | g <;> try exact h
  intro j
  refine ⟨(h j).1, fun i hi => ?_⟩
  obtain ⟨h1, q, h2, h3⟩ := (h j).2 i hi
  exact ⟨h1, q, am_get_app h2, h3⟩
theorem am_RC_app {X : Nat → Value → Prop} {G : Nat → ClassId} {as t : List Nat} {c : AC} {e : va_E} (h : am_RC X G as c e) : am_RC X G (as ++ t) c e := by
  rcases c with ⟨ty, n, a⟩ | ⟨ci, fs⟩ <;> rcases e with ⟨cA, m, b⟩ | ⟨cj, gs⟩
  · exact ⟨h.1, h.2.1, h.2.2.1, am_RA_app h.2.2.2⟩
  · exact h
  · exact h
  · exact ⟨h.1, am_RS_app h.2⟩
theorem am_RS_cons {X : Nat → Value → Prop} {as : List Nat} {v : Value} {s t : List Value} (h : am_RS X as (v :: s) t) : ∃ w r, t = w :: r ∧ am_RV X as v w ∧ am_RS X as s r := by
  cases t with
  | nil => exact h.elim
  | cons w r => exact ⟨w, r, rfl, h.1, h.2⟩
theorem am_RS_nil {X : Nat → Value → Prop} {as : List Nat} {t : List Value} (h : am_RS X as [] t) : t = [] := by
  cases t with
  | nil => rfl
  | cons w r => exact h.elim
theorem am_RS_int {X : Nat → Value → Prop} {as : List Nat} {x : Int32} {s t : List Value} (h : am_RS X as (.int x :: s) t) : ∃ r, t = .int x :: r ∧ am_RS X as s r := by
  obtain ⟨w, r, rfl, rfl, h2⟩ := am_RS_cons h
  exact ⟨r, rfl, h2⟩
theorem am_RS_long {X : Nat → Value → Prop} {as : List Nat} {x : Int64} {s t : List Value} (h : am_RS X as (.long x :: s) t) : ∃ r, t = .long x :: r ∧ am_RS X as s r := by
  obtain ⟨w, r, rfl, rfl, h2⟩ := am_RS_cons h
  exact ⟨r, rfl, h2⟩
theorem am_RS_ref {X : Nat → Value → Prop} {as : List Nat} {i : Nat} {s t : List Value} (h : am_RS X as (.ref i :: s) t) (hi : i < am_SB) : ∃ a r, as[i]? = some a ∧ t = .ref a :: r ∧ am_RS X as s r := by
  obtain ⟨w, r, rfl, h1, h2⟩ := am_RS_cons h
  obtain ⟨a, h3, rfl⟩ := am_RV_ref h1 hi
  exact ⟨a, r, h3, rfl, h2⟩
theorem am_RS_len {X : Nat → Value → Prop} {as : List Nat} : ∀ {s t : List Value}, am_RS X as s t → t.length = s.length
  | [], [], _ => rfl
  | _ :: _, _ :: _, h => by rw [List.length_cons, List.length_cons, am_RS_len h.2]
  | [], _ :: _, h => h.elim
  | _ :: _, [], h => h.elim
theorem am_RS_get {X : Nat → Value → Prop} {as : List Nat} : ∀ {s t : List Value} {k : Nat} {v : Value}, am_RS X as s t → s[k]? = some v → ∃ w, t[k]? = some w ∧ am_RV X as v w
  | [], _, _, _, _, h => by simp at h
  | _ :: _, [], _, _, h, _ => h.elim
  | a :: s, b :: t, 0, v, h, hk => by
    rw [List.getElem?_cons_zero] at hk ⊢
    cases hk
    exact ⟨b, rfl, h.1⟩
  | a :: s, b :: t, k + 1, v, h, hk => by
    rw [List.getElem?_cons_succ] at hk ⊢
    exact am_RS_get h.2 hk
theorem am_RS_set {X : Nat → Value → Prop} {as : List Nat} : ∀ {s t : List Value} (k : Nat) {v w : Value}, am_RS X as s t → am_RV X as v w → am_RS X as (s.set k v) (t.set k w)
  | [], [], _, _, _, _, _ => trivial
  | [], _ :: _, _, _, _, h, _ => h.elim
  | _ :: _, [], _, _, _, h, _ => h.elim
  | a :: s, b :: t, 0, v, w, h, hv => ⟨hv, h.2⟩
  | a :: s, b :: t, k + 1, v, w, h, hv => ⟨h.1, am_RS_set k h.2 hv⟩
theorem am_RS_append {X : Nat → Value → Prop} {as : List Nat} : ∀ {a b c d : List Value}, am_RS X as a b → am_RS X as c d → am_RS X as (a ++ c) (b ++ d)
  | [], [], _, _, _, h => h
  | _ :: _, _ :: _, _, _, h, h2 => ⟨h.1, am_RS_append h.2 h2⟩
  | [], _ :: _, _, _, h, _ => h.elim
  | _ :: _, [], _, _, h, _ => h.elim
theorem am_RS_reverse {X : Nat → Value → Prop} {as : List Nat} : ∀ {a b : List Value}, am_RS X as a b → am_RS X as a.reverse b.reverse
  | [], [], _ => trivial
  | _ :: _, _ :: _, h => by
    rw [List.reverse_cons, List.reverse_cons]
    exact am_RS_append (am_RS_reverse h.2) ⟨h.1, trivial⟩
  | [], _ :: _, h => h.elim
  | _ :: _, [], h => h.elim
theorem am_RS_take {X : Nat → Value → Prop} {as : List Nat} : ∀ (n : Nat) {a b : List Value}, am_RS X as a b → am_RS X as (a.take n) (b.take n) ∧ am_RS X as (a.drop n) (b.drop n)
  | 0, _, _, h => ⟨by rw [List.take_zero, List.take_zero]; trivial, h⟩
  | n + 1, [], [], _ => ⟨trivial, trivial⟩
  | n + 1, _ :: _, _ :: _, h => ⟨⟨h.1, (am_RS_take n h.2).1⟩, (am_RS_take n h.2).2⟩
  | _ + 1, [], _ :: _, h => h.elim
  | _ + 1, _ :: _, [], h => h.elim
/-- what is outside the world is a cell or null -/
def am_Xok (X : Nat → Value → Prop) : Prop := ∀ i w, X i w → w = .null ∨ ∃ a, w = .ref a
theorem am_X_ok (k : AK) (b : Nat) : am_Xok (am_X k b) := by
  intro i w h
  unfold am_X at h
  split at h
  · exact Or.inr ⟨_, h⟩
  · split at h
    · exact h
    · split at h
      · exact Or.inr ⟨_, h⟩
      · split at h
        · exact Or.inr ⟨_, h⟩
        · exact Or.inr ⟨_, h⟩
theorem am_RV_cat {X : Nat → Value → Prop} (hX : am_Xok X) {as : List Nat} {v w : Value} (h : am_RV X as v w) : w.category = v.category := by
  cases v with
  | ref i =>
    by_cases hi : i < am_SB
    · obtain ⟨a, -, rfl⟩ := am_RV_ref h hi
      rfl
    · rcases hX i w (am_RV_ext h hi) with rfl | ⟨a, rfl⟩ <;> rfl
  | int x => rw [show w = .int x from h]
  | long x => rw [show w = .long x from h]
  | null => rw [show w = .null from h]
  | float x => exact False.elim h
  | double x => exact False.elim h
  | retAddr x => exact False.elim h
theorem am_RS_cat {X : Nat → Value → Prop} (hX : am_Xok X) {as : List Nat} : ∀ {s t : List Value}, am_RS X as s t → (t.map fun v => v.category) = s.map Value.category
  | [], [], _ => rfl
  | _ :: _, _ :: _, h => by rw [List.map_cons, List.map_cons, am_RS_cat hX h.2, am_RV_cat hX h.1]
  | [], _ :: _, h => h.elim
  | _ :: _, [], h => h.elim
/-! the locals -/
theorem am_RL_get {X : Nat → Value → Prop} {as : List Nat} {nL : Nat} {ls : ALs} {ls' : Array Slot} (h : am_RL X as nL ls ls') {i : Nat} {v : Value} (hv : ls[i]? = some (some v)) : ∃ w, am_RV X as v w ∧ ls'[i]? = some (.val w) := h.2.2.2 i v hv
def am_full (ls' : Array Slot) : List (Nat × Value) := (List.range ls'.size).filterMap fun j => match ls'[j]? with
  | some (Slot.val w) => some (j, w)
  | _ => none
theorem am_full_has {ls' : Array Slot} {nL : Nat} (h1 : ls'.size = nL) (h2 : lv_wf ls') : lv_has ls' nL (am_full ls') := by
  refine ⟨h1, h2, fun q hq => ?_⟩
  obtain ⟨j, -, hj⟩ := List.mem_filterMap.mp hq
  split at hj
  · next w hw => cases hj; exact hw
  · cases hj
theorem am_full_mem {ls' : Array Slot} {j : Nat} {w : Value} (h : ls'[j]? = some (.val w)) : (j, w) ∈ am_full ls' := by
  refine List.mem_filterMap.mpr ⟨j, List.mem_range.mpr (Array.getElem?_eq_some_iff.mp h).1, ?_⟩
  rw [h]
theorem am_kill_len (ls : ALs) (i : Nat) : (am_kill ls i).length = ls.length := by
  unfold am_kill
  split
  · rfl
  · split
    · rw [List.length_set]
    · rfl
theorem am_kill_get {ls : ALs} {i j : Nat} {v : Value} (h : (am_kill ls i)[j]? = some (some v)) : ls[j]? = some (some v) ∧ ¬ (j + 1 = i ∧ v.category = 2 ∧ ∃ x, v = .long x) := by
  unfold am_kill at h
  split at h
  · exact ⟨h, fun q => by omega⟩
  · next _ n =>
    split at h
    · next x hx =>
      by_cases e : n = j
      · subst e
        rw [List.getElem?_set_self (List.getElem?_eq_some_iff.mp hx).1] at h
        cases h
      · rw [List.getElem?_set_ne e] at h
        exact ⟨h, fun q => e (by omega)⟩
    · next hx =>
      refine ⟨h, fun q => ?_⟩
      obtain ⟨q1, -, x, rfl⟩ := q
      have e : n = j := by omega
      subst e
      exact hx x h
theorem am_RV_cat2 {X : Nat → Value → Prop} (hX : am_Xok X) {as : List Nat} {v w : Value} (h : am_RV X as v w) (hc : w.category = 2) : ∃ x, v = .long x := by
  have h2 := am_RV_cat hX h
  rw [hc] at h2
  cases v with
  | long x => exact ⟨x, rfl⟩
  | ref i => cases h2
  | int x => cases h2
  | null => cases h2
  | float x => cases h2
  | double x => exact False.elim h
  | retAddr x => cases h2
/-- a store of one slot -/
theorem am_RL_set1 {X : Nat → Value → Prop} (hX : am_Xok X) {as : List Nat} {nL : Nat} {ls : ALs} {ls1 ls2 : Array Slot} (h : am_RL X as nL ls ls1) {i : Nat} {v w : Value} (hi : i < ls.length) (hv : am_RV X as v w) (h2 : lv_has ls2 nL ((i, w) :: (am_full ls1).filter (fun q => !(q.1 == i) && !(q.1 + 1 == i && q.2.category == 2)))) : am_RL X as nL (am_set1 ls i v) ls2 := by
  refine ⟨h2.1, by rw [am_set1, List.length_set, am_kill_len]; exact h.2.1, h2.2.1, fun j u hj => ?_⟩
  rw [am_set1] at hj
  by_cases e : i = j
  · subst e
    rw [List.getElem?_set_self (by rw [am_kill_len]; exact hi)] at hj
    cases hj
    exact ⟨w, hv, h2.2.2 (i, w) List.mem_cons_self⟩
  · rw [List.getElem?_set_ne e] at hj
    obtain ⟨h3, h4⟩ := am_kill_get hj
    obtain ⟨u', h5, h6⟩ := h.2.2.2 j u h3
    refine ⟨u', h5, h2.2.2 (j, u') (List.mem_cons_of_mem _ (List.mem_filter.mpr ⟨am_full_mem h6, ?_⟩))⟩
    have e1 : (j == i) = false := by simpa using fun q => e q.symm
    rw [e1]
    simp only [Bool.not_false, Bool.true_and, Bool.not_eq_true', Bool.and_eq_false_iff, beq_eq_false_iff_ne, ne_eq]
    by_cases e2 : j + 1 = i
    · right
      intro hc
      obtain ⟨x, hx⟩ := am_RV_cat2 hX h5 hc
      exact h4 ⟨e2, by rw [hx]; rfl, x, hx⟩
    · exact Or.inl e2
theorem am_RL_clr {X : Nat → Value → Prop} (hX : am_Xok X) {as : List Nat} {nL : Nat} {ls : ALs} {ls1 ls2 : Array Slot} (h : am_RL X as nL ls ls1) {i : Nat} {w : Value} (hi : i < ls.length) (h2 : lv_has ls2 nL ((i, w) :: (am_full ls1).filter (fun q => !(q.1 == i) && !(q.1 + 1 == i && q.2.category == 2)))) : am_RL X as nL (am_clr ls i) ls2 := by
  refine ⟨h2.1, by rw [am_clr, List.length_set, am_kill_len]; exact h.2.1, h2.2.1, fun j u hj => ?_⟩
  rw [am_clr] at hj
  by_cases e : i = j
  · subst e
    rw [List.getElem?_set_self (by rw [am_kill_len]; exact hi)] at hj
    cases hj
  · rw [List.getElem?_set_ne e] at hj
    obtain ⟨h3, h4⟩ := am_kill_get hj
    obtain ⟨u', h5, h6⟩ := h.2.2.2 j u h3
    refine ⟨u', h5, h2.2.2 (j, u') (List.mem_cons_of_mem _ (List.mem_filter.mpr ⟨am_full_mem h6, ?_⟩))⟩
    have e1 : (j == i) = false := by simpa using fun q => e q.symm
    rw [e1]
    simp only [Bool.not_false, Bool.true_and, Bool.not_eq_true', Bool.and_eq_false_iff, beq_eq_false_iff_ne, ne_eq]
    by_cases e2 : j + 1 = i
    · right
      intro hc
      obtain ⟨x, hx⟩ := am_RV_cat2 hX h5 hc
      exact h4 ⟨e2, by rw [hx]; rfl, x, hx⟩
    · exact Or.inl e2
/-- a store of two -/
theorem am_RL_set2 {X : Nat → Value → Prop} (hX : am_Xok X) {as : List Nat} {nL : Nat} {ls : ALs} {ls1 ls2 : Array Slot} (h : am_RL X as nL ls ls1) {i : Nat} {v w : Value} (hi : i + 1 < ls.length) (hv : am_RV X as v w) (h2 : lv_has ls2 nL ((i, w) :: (am_full ls1).filter (fun q => !(q.1 == i) && (!(q.1 == i + 1) && !(q.1 + 1 == i && q.2.category == 2))))) : am_RL X as nL (am_set2 ls i v) ls2 := by
  refine ⟨h2.1, by rw [am_set2, List.length_set, List.length_set, am_kill_len]; exact h.2.1, h2.2.1, fun j u hj => ?_⟩
  rw [am_set2] at hj
  by_cases e3 : i + 1 = j
  · subst e3
    rw [List.getElem?_set_self (by rw [List.length_set, am_kill_len]; exact hi)] at hj
    cases hj
  rw [List.getElem?_set_ne e3] at hj
  by_cases e : i = j
  · subst e
    rw [List.getElem?_set_self (by rw [am_kill_len]; omega)] at hj
    cases hj
    exact ⟨w, hv, h2.2.2 (i, w) List.mem_cons_self⟩
  · rw [List.getElem?_set_ne e] at hj
    obtain ⟨h3, h4⟩ := am_kill_get hj
    obtain ⟨u', h5, h6⟩ := h.2.2.2 j u h3
    refine ⟨u', h5, h2.2.2 (j, u') (List.mem_cons_of_mem _ (List.mem_filter.mpr ⟨am_full_mem h6, ?_⟩))⟩
    have e1 : (j == i) = false := by simpa using fun q => e q.symm
    have e4 : (j == i + 1) = false := by simpa using fun q => e3 q.symm
    rw [e1, e4]
    simp only [Bool.not_false, Bool.true_and, Bool.not_eq_true', Bool.and_eq_false_iff, beq_eq_false_iff_ne, ne_eq]
    by_cases e2 : j + 1 = i
    · right
      intro hc
      obtain ⟨x, hx⟩ := am_RV_cat2 hX h5 hc
      exact h4 ⟨e2, by rw [hx]; rfl, x, hx⟩
    · exact Or.inl e2
/-! the heap -/
theorem am_RW_get {X : Nat → Value → Prop} {G : Nat → ClassId} {as : List Nat} {h : AHp} {ws : va_W} (R : am_RW X G as h ws) {i a : Nat} {c : AC} (hc : h[i]? = some c) (ha : as[i]? = some a) : ∃ e, ws[i]? = some (a, e) ∧ am_RC X G as c e := by
  obtain ⟨q, e, h1, h2, h3⟩ := R.2.2.2 i c hc
  rw [ha] at h1
  cases h1
  exact ⟨e, h2, h3⟩
theorem am_RW_set {X : Nat → Value → Prop} {G : Nat → ClassId} {as : List Nat} {h : AHp} {ws : va_W} (R : am_RW X G as h ws) {i a : Nat} {c : AC} {e : va_E} (ha : as[i]? = some a) (hc : am_RC X G as c e) : am_RW X G as (h.set i c) (ws.set i (a, e)) := by
  refine ⟨by rw [List.length_set]; exact R.1, by rw [List.length_set, List.length_set]; exact R.2.1, by rw [List.length_set]; exact R.2.2.1, fun j d hj => ?_⟩
  by_cases q : i = j
  · subst q
    have hl : i < h.length := by
      have := (List.getElem?_eq_some_iff.mp ha).1
      rw [R.1] at this
      exact this
    rw [List.getElem?_set_self hl] at hj
    cases hj
    exact ⟨a, e, ha, List.getElem?_set_self (by rw [R.2.1]; exact hl), hc⟩
  · rw [List.getElem?_set_ne q] at hj
    rw [List.getElem?_set_ne q]
    exact R.2.2.2 j d hj
theorem am_RW_push {X : Nat → Value → Prop} {G : Nat → ClassId} {as : List Nat} {h : AHp} {ws : va_W} (R : am_RW X G as h ws) {a : Nat} {c : AC} {e : va_E} (hs : h.length < am_SB) (hc : am_RC X G as c e) : am_RW X G (as ++ [a]) (h ++ [c]) (ws ++ [(a, e)]) := by
  refine ⟨by simp [R.1], by simp [R.2.1], by simp; omega, fun j d hj => ?_⟩
  by_cases q : j < h.length
  · rw [List.getElem?_append_left q] at hj
    obtain ⟨b, f, h1, h2, h3⟩ := R.2.2.2 j d hj
    exact ⟨b, f, am_get_app h1, by rw [List.getElem?_append_left (by rw [R.2.1]; exact q)]; exact h2, am_RC_app h3⟩
  · rw [List.getElem?_append_right (by omega)] at hj
    have hz : j - h.length < 1 := (List.getElem?_eq_some_iff.mp hj).1
    have hj0 : j = h.length := by omega
    subst hj0
    rw [Nat.sub_self] at hj
    cases hj
    refine ⟨a, e, ?_, ?_, am_RC_app hc⟩
    · rw [List.getElem?_append_right (by rw [R.1]; exact Nat.le_refl _), R.1, Nat.sub_self]; rfl
    · rw [List.getElem?_append_right (by rw [R.2.1]; exact Nat.le_refl _), R.2.1, Nat.sub_self]; rfl
theorem am_in {i : Int32} {n : Nat} (h1 : 0 ≤ i.toInt) (h2 : i.toInt < n) : vp_in i n := vp_in_iff.mpr ⟨h1, h2⟩
end
section
/-! ===== the simulation, instruction by instruction: those that touch no cell ===== -/
section AMS
variable {p : Program} {l : Launch} {e : Env} {R : Room} {s : State} {m : MethodId} {args : Array Value} {below : List Frame} {meth : Method} {c : Code} {Q : State → Prop} {k : AK} {X : Nat → Value → Prop} {nL : Nat} {as0 as : List Nat} {ws : va_W} {ls : ALs} {st : List Value} {h : AHp} {ls1 : Array Slot} {st1 : List Value} {H : Heap} {locs : List Loc} {cells slots pc : Nat} {S : ASt} {cc : ByteArray}
def am_Go (p : Program) (l : Launch) (e : Env) (R : Room) (s : State) (m : MethodId) (args : Array Value) (below : List Frame) (meth : Method) (c : Code) (Q : State → Prop) (k : AK) (X : Nat → Value → Prop) (nL : Nat) (as0 : List Nat) (S : ASt) (cells slots : Nat) : Prop :=
  ∀ (as : List Nat) (ws : va_W) (ls1 : Array Slot) (st1 : List Value) (H : Heap) (locs : List Loc), am_Rel k X nL s as0 as ws S.2.1 S.2.2.1 S.2.2.2.1 ls1 st1 H locs → W p l e R s m args below meth c H locs (cells + S.2.2.2.2.1) (slots + S.2.2.2.2.2) Q (F0 m S.1 ls1 st1)
/-- something is pushed -/
theorem sim_push {v : Value} {n : Nat} (hv : ∃ w, am_RV X as v w ∧ (∀ rest, W p l e R s m args below meth c H locs cells slots Q (F0 m (pc + n) ls1 (w :: rest)) → W p l e R s m args below meth c H locs cells slots Q (F0 m pc ls1 rest))) (hs : some (pc + n, ls, v :: st, h, 0, 0) = some S) (Rl : am_Rel k X nL s as0 as ws ls st h ls1 st1 H locs) (go : am_Go p l e R s m args below meth c Q k X nL as0 S cells slots) : W p l e R s m args below meth c H locs cells slots Q (F0 m pc ls1 st1) := by
  cases hs
  obtain ⟨w, h1, h2⟩ := hv
  obtain ⟨t, hl, hst, hw, hP, hD, hS⟩ := Rl
  exact h2 _ (go as ws ls1 (w :: st1) H locs ⟨t, hl, ⟨h1, hst⟩, hw, hP, hD, hS⟩)
theorem sim_ii {f : Int32 → Int32 → Int32} (row : ∀ {x y : Int32} {rest : List Value}, W p l e R s m args below meth c H locs cells slots Q (F0 m (pc + 1) ls1 (.int (f x y) :: rest)) → W p l e R s m args below meth c H locs cells slots Q (F0 m pc ls1 (.int y :: .int x :: rest))) (hs : am_ii f pc ls st h = some S) (Rl : am_Rel k X nL s as0 as ws ls st h ls1 st1 H locs) (go : am_Go p l e R s m args below meth c Q k X nL as0 S cells slots) : W p l e R s m args below meth c H locs cells slots Q (F0 m pc ls1 st1) := by
  unfold am_ii at hs
  split at hs
  · cases hs
    obtain ⟨t, hl, hst, hw, hP, hD, hS⟩ := Rl
    obtain ⟨r1, rfl, h1⟩ := am_RS_int hst
    obtain ⟨r2, rfl, h2⟩ := am_RS_int h1
    exact row (go as ws ls1 _ H locs ⟨t, hl, ⟨rfl, h2⟩, hw, hP, hD, hS⟩)
  · cases hs
theorem sim_dv {f : Int32 → Int32 → Int32} (row : ∀ {x y : Int32} {rest : List Value}, ¬ y = 0 → W p l e R s m args below meth c H locs cells slots Q (F0 m (pc + 1) ls1 (.int (f x y) :: rest)) → W p l e R s m args below meth c H locs cells slots Q (F0 m pc ls1 (.int y :: .int x :: rest))) (hs : am_dv f pc ls st h = some S) (Rl : am_Rel k X nL s as0 as ws ls st h ls1 st1 H locs) (go : am_Go p l e R s m args below meth c Q k X nL as0 S cells slots) : W p l e R s m args below meth c H locs cells slots Q (F0 m pc ls1 st1) := by
  unfold am_dv at hs
  split at hs
  · split at hs
    · cases hs
    · next hy =>
      cases hs
      obtain ⟨t, hl, hst, hw, hP, hD, hS⟩ := Rl
      obtain ⟨r1, rfl, h1⟩ := am_RS_int hst
      obtain ⟨r2, rfl, h2⟩ := am_RS_int h1
      exact row hy (go as ws ls1 _ H locs ⟨t, hl, ⟨rfl, h2⟩, hw, hP, hD, hS⟩)
  · cases hs
theorem sim_ll {f : Int64 → Int64 → Int64} (row : ∀ {x y : Int64} {rest : List Value}, W p l e R s m args below meth c H locs cells slots Q (F0 m (pc + 1) ls1 (.long (f x y) :: rest)) → W p l e R s m args below meth c H locs cells slots Q (F0 m pc ls1 (.long y :: .long x :: rest))) (hs : am_ll f pc ls st h = some S) (Rl : am_Rel k X nL s as0 as ws ls st h ls1 st1 H locs) (go : am_Go p l e R s m args below meth c Q k X nL as0 S cells slots) : W p l e R s m args below meth c H locs cells slots Q (F0 m pc ls1 st1) := by
  unfold am_ll at hs
  split at hs
  · cases hs
    obtain ⟨t, hl, hst, hw, hP, hD, hS⟩ := Rl
    obtain ⟨r1, rfl, h1⟩ := am_RS_long hst
    obtain ⟨r2, rfl, h2⟩ := am_RS_long h1
    exact row (go as ws ls1 _ H locs ⟨t, hl, ⟨rfl, h2⟩, hw, hP, hD, hS⟩)
  · cases hs
theorem sim_li {f : Int64 → Int32 → Int64} (row : ∀ {x : Int64} {y : Int32} {rest : List Value}, W p l e R s m args below meth c H locs cells slots Q (F0 m (pc + 1) ls1 (.long (f x y) :: rest)) → W p l e R s m args below meth c H locs cells slots Q (F0 m pc ls1 (.int y :: .long x :: rest))) (hs : am_li f pc ls st h = some S) (Rl : am_Rel k X nL s as0 as ws ls st h ls1 st1 H locs) (go : am_Go p l e R s m args below meth c Q k X nL as0 S cells slots) : W p l e R s m args below meth c H locs cells slots Q (F0 m pc ls1 st1) := by
  unfold am_li at hs
  split at hs
  · cases hs
    obtain ⟨t, hl, hst, hw, hP, hD, hS⟩ := Rl
    obtain ⟨r1, rfl, h1⟩ := am_RS_int hst
    obtain ⟨r2, rfl, h2⟩ := am_RS_long h1
    exact row (go as ws ls1 _ H locs ⟨t, hl, ⟨rfl, h2⟩, hw, hP, hD, hS⟩)
  · cases hs
theorem sim_i1 {f : Int32 → Value} (hf : ∀ x as, am_RV X as (f x) (f x)) (row : ∀ {x : Int32} {rest : List Value}, W p l e R s m args below meth c H locs cells slots Q (F0 m (pc + 1) ls1 (f x :: rest)) → W p l e R s m args below meth c H locs cells slots Q (F0 m pc ls1 (.int x :: rest))) (hs : am_i1 f pc ls st h = some S) (Rl : am_Rel k X nL s as0 as ws ls st h ls1 st1 H locs) (go : am_Go p l e R s m args below meth c Q k X nL as0 S cells slots) : W p l e R s m args below meth c H locs cells slots Q (F0 m pc ls1 st1) := by
  unfold am_i1 at hs
  split at hs
  · cases hs
    obtain ⟨t, hl, hst, hw, hP, hD, hS⟩ := Rl
    obtain ⟨r1, rfl, h1⟩ := am_RS_int hst
    exact row (go as ws ls1 _ H locs ⟨t, hl, ⟨hf _ _, h1⟩, hw, hP, hD, hS⟩)
  · cases hs
theorem sim_l2i (row : ∀ {x : Int64} {rest : List Value}, W p l e R s m args below meth c H locs cells slots Q (F0 m (pc + 1) ls1 (.int x.toInt32 :: rest)) → W p l e R s m args below meth c H locs cells slots Q (F0 m pc ls1 (.long x :: rest))) (hs : am_l2i pc ls st h = some S) (Rl : am_Rel k X nL s as0 as ws ls st h ls1 st1 H locs) (go : am_Go p l e R s m args below meth c Q k X nL as0 S cells slots) : W p l e R s m args below meth c H locs cells slots Q (F0 m pc ls1 st1) := by
  unfold am_l2i at hs
  split at hs
  · cases hs
    obtain ⟨t, hl, hst, hw, hP, hD, hS⟩ := Rl
    obtain ⟨r1, rfl, h1⟩ := am_RS_long hst
    exact row (go as ws ls1 _ H locs ⟨t, hl, ⟨rfl, h1⟩, hw, hP, hD, hS⟩)
  · cases hs
theorem sim_lcmp (row : ∀ {x y : Int64} {rest : List Value}, W p l e R s m args below meth c H locs cells slots Q (F0 m (pc + 1) ls1 (.int (lg_cmp x y) :: rest)) → W p l e R s m args below meth c H locs cells slots Q (F0 m pc ls1 (.long y :: .long x :: rest))) (hs : am_lcmp pc ls st h = some S) (Rl : am_Rel k X nL s as0 as ws ls st h ls1 st1 H locs) (go : am_Go p l e R s m args below meth c Q k X nL as0 S cells slots) : W p l e R s m args below meth c H locs cells slots Q (F0 m pc ls1 st1) := by
  unfold am_lcmp at hs
  split at hs
  · cases hs
    obtain ⟨t, hl, hst, hw, hP, hD, hS⟩ := Rl
    obtain ⟨r1, rfl, h1⟩ := am_RS_long hst
    obtain ⟨r2, rfl, h2⟩ := am_RS_long h1
    exact row (go as ws ls1 _ H locs ⟨t, hl, ⟨rfl, h2⟩, hw, hP, hD, hS⟩)
  · cases hs
theorem sim_dup (hX : am_Xok X) (row : ∀ {v : Value} {rest : List Value}, v.category = 1 → W p l e R s m args below meth c H locs cells slots Q (F0 m (pc + 1) ls1 (v :: v :: rest)) → W p l e R s m args below meth c H locs cells slots Q (F0 m pc ls1 (v :: rest))) (hs : am_dup pc ls st h = some S) (Rl : am_Rel k X nL s as0 as ws ls st h ls1 st1 H locs) (go : am_Go p l e R s m args below meth c Q k X nL as0 S cells slots) : W p l e R s m args below meth c H locs cells slots Q (F0 m pc ls1 st1) := by
  unfold am_dup at hs
  split at hs
  · split at hs
    · next hv =>
      cases hs
      obtain ⟨t, hl, hst, hw, hP, hD, hS⟩ := Rl
      obtain ⟨w, r1, rfl, h0, h1⟩ := am_RS_cons hst
      exact row (by rw [am_RV_cat hX h0]; exact hv) (go as ws ls1 _ H locs ⟨t, hl, ⟨h0, h0, h1⟩, hw, hP, hD, hS⟩)
    · cases hs
  · cases hs
theorem sim_dup2 (hX : am_Xok X) (row : ∀ {v u : Value} {rest : List Value}, v.category = 1 → u.category = 1 → W p l e R s m args below meth c H locs cells slots Q (F0 m (pc + 1) ls1 (v :: u :: v :: u :: rest)) → W p l e R s m args below meth c H locs cells slots Q (F0 m pc ls1 (v :: u :: rest))) (hs : am_dup2 pc ls st h = some S) (Rl : am_Rel k X nL s as0 as ws ls st h ls1 st1 H locs) (go : am_Go p l e R s m args below meth c Q k X nL as0 S cells slots) : W p l e R s m args below meth c H locs cells slots Q (F0 m pc ls1 st1) := by
  unfold am_dup2 at hs
  split at hs
  · split at hs
    · next hv =>
      cases hs
      obtain ⟨t, hl, hst, hw, hP, hD, hS⟩ := Rl
      obtain ⟨w, r1, rfl, h0, h1⟩ := am_RS_cons hst
      obtain ⟨w2, r2, rfl, h3, h4⟩ := am_RS_cons h1
      exact row (by rw [am_RV_cat hX h0]; exact hv.1) (by rw [am_RV_cat hX h3]; exact hv.2) (go as ws ls1 _ H locs ⟨t, hl, ⟨h0, h3, h0, h3, h4⟩, hw, hP, hD, hS⟩)
    · cases hs
  · cases hs
theorem sim_dup1 (hX : am_Xok X) (row : ∀ {v u : Value} {rest : List Value}, v.category = 1 → u.category = 1 → W p l e R s m args below meth c H locs cells slots Q (F0 m (pc + 1) ls1 (v :: u :: v :: rest)) → W p l e R s m args below meth c H locs cells slots Q (F0 m pc ls1 (v :: u :: rest))) (hs : am_dup1 pc ls st h = some S) (Rl : am_Rel k X nL s as0 as ws ls st h ls1 st1 H locs) (go : am_Go p l e R s m args below meth c Q k X nL as0 S cells slots) : W p l e R s m args below meth c H locs cells slots Q (F0 m pc ls1 st1) := by
  unfold am_dup1 at hs
  split at hs
  · split at hs
    · next hv =>
      cases hs
      obtain ⟨t, hl, hst, hw, hP, hD, hS⟩ := Rl
      obtain ⟨w, r1, rfl, h0, h1⟩ := am_RS_cons hst
      obtain ⟨w2, r2, rfl, h3, h4⟩ := am_RS_cons h1
      exact row (by rw [am_RV_cat hX h0]; exact hv.1) (by rw [am_RV_cat hX h3]; exact hv.2) (go as ws ls1 _ H locs ⟨t, hl, ⟨h0, h3, h0, h4⟩, hw, hP, hD, hS⟩)
    · cases hs
  · cases hs
theorem sim_pop (hX : am_Xok X) (row : ∀ {v : Value} {rest : List Value}, v.category = 1 → W p l e R s m args below meth c H locs cells slots Q (F0 m (pc + 1) ls1 rest) → W p l e R s m args below meth c H locs cells slots Q (F0 m pc ls1 (v :: rest))) (hs : am_pop pc ls st h = some S) (Rl : am_Rel k X nL s as0 as ws ls st h ls1 st1 H locs) (go : am_Go p l e R s m args below meth c Q k X nL as0 S cells slots) : W p l e R s m args below meth c H locs cells slots Q (F0 m pc ls1 st1) := by
  unfold am_pop at hs
  split at hs
  · split at hs
    · next hv =>
      cases hs
      obtain ⟨t, hl, hst, hw, hP, hD, hS⟩ := Rl
      obtain ⟨w, r1, rfl, h0, h1⟩ := am_RS_cons hst
      exact row (by rw [am_RV_cat hX h0]; exact hv) (go as ws ls1 _ H locs ⟨t, hl, h1, hw, hP, hD, hS⟩)
    · cases hs
  · cases hs
theorem sim_ldi {i n : Nat} (row : ∀ {x : Int32} {rest : List Value}, ls1[i]? = some (.val (.int x)) → W p l e R s m args below meth c H locs cells slots Q (F0 m (pc + n) ls1 (.int x :: rest)) → W p l e R s m args below meth c H locs cells slots Q (F0 m pc ls1 rest)) (hs : am_ldi i n pc ls st h = some S) (Rl : am_Rel k X nL s as0 as ws ls st h ls1 st1 H locs) (go : am_Go p l e R s m args below meth c Q k X nL as0 S cells slots) : W p l e R s m args below meth c H locs cells slots Q (F0 m pc ls1 st1) := by
  unfold am_ldi at hs
  split at hs
  · next hv =>
    cases hs
    obtain ⟨t, hl, hst, hw, hP, hD, hS⟩ := Rl
    obtain ⟨w, rfl, h2⟩ := am_RL_get hl hv
    exact row h2 (go as ws ls1 _ H locs ⟨t, hl, ⟨rfl, hst⟩, hw, hP, hD, hS⟩)
  · cases hs
theorem sim_ldl {i n : Nat} (row : ∀ {x : Int64} {rest : List Value}, ls1[i]? = some (.val (.long x)) → W p l e R s m args below meth c H locs cells slots Q (F0 m (pc + n) ls1 (.long x :: rest)) → W p l e R s m args below meth c H locs cells slots Q (F0 m pc ls1 rest)) (hs : am_ldl i n pc ls st h = some S) (Rl : am_Rel k X nL s as0 as ws ls st h ls1 st1 H locs) (go : am_Go p l e R s m args below meth c Q k X nL as0 S cells slots) : W p l e R s m args below meth c H locs cells slots Q (F0 m pc ls1 st1) := by
  unfold am_ldl at hs
  split at hs
  · next hv =>
    cases hs
    obtain ⟨t, hl, hst, hw, hP, hD, hS⟩ := Rl
    obtain ⟨w, rfl, h2⟩ := am_RL_get hl hv
    exact row h2 (go as ws ls1 _ H locs ⟨t, hl, ⟨rfl, hst⟩, hw, hP, hD, hS⟩)
  · cases hs
/-- outside, but for am_SB + 1, there are cells -/
def am_Xref (X : Nat → Value → Prop) : Prop := ∀ i w, ¬ i = am_SB + 1 → X i w → ∃ a, w = .ref a
theorem am_X_ref (k : AK) (b : Nat) : am_Xref (am_X k b) := by
  intro i w hi h
  unfold am_X at h
  by_cases q0 : i = am_SB
  · rw [if_pos q0] at h; exact ⟨_, h⟩
  · rw [if_neg q0, if_neg hi] at h
    by_cases q2 : i < am_SB + 5
    · rw [if_pos q2] at h; exact ⟨_, h⟩
    · rw [if_neg q2] at h
      by_cases q1 : (i - (am_SB + 10)) % 2 = 0
      · rw [if_pos q1] at h; exact ⟨_, h⟩
      · rw [if_neg q1] at h; exact ⟨_, h⟩
/-- one thing outside is one cell -/
def am_Xfun (X : Nat → Value → Prop) : Prop := ∀ i w u, ¬ i = am_SB + 1 → X i w → X i u → w = u
theorem am_X_fun (k : AK) (b : Nat) : am_Xfun (am_X k b) := by
  intro i w u hi h g
  unfold am_X at h g
  by_cases q0 : i = am_SB
  · rw [if_pos q0] at h g; rw [h, g]
  · rw [if_neg q0, if_neg hi] at h g
    by_cases q2 : i < am_SB + 5
    · rw [if_pos q2] at h g; rw [h, g]
    · rw [if_neg q2] at h g
      by_cases q1 : (i - (am_SB + 10)) % 2 = 0
      · rw [if_pos q1] at h g; rw [h, g]
      · rw [if_neg q1] at h g; rw [h, g]
theorem am_RV_same {X : Nat → Value → Prop} (hX : am_Xfun X) {as : List Nat} {i : Nat} {w u : Value} (hi : ¬ i = am_SB + 1) (h : am_RV X as (.ref i) w) (g : am_RV X as (.ref i) u) : w = u := by
  by_cases q : i < am_SB
  · obtain ⟨a, h1, rfl⟩ := am_RV_ref h q
    obtain ⟨a2, h2, rfl⟩ := am_RV_ref g q
    rw [h1] at h2
    cases h2
    rfl
  · exact hX i w u hi (am_RV_ext h q) (am_RV_ext g q)
theorem am_RV_isref (hX : am_Xref X) {as : List Nat} {i : Nat} {w : Value} (hi : ¬ i = am_SB + 1) (h : am_RV X as (.ref i) w) : ∃ a, w = .ref a := by
  by_cases q : i < am_SB
  · obtain ⟨a, -, e⟩ := am_RV_ref h q
    exact ⟨a, e⟩
  · exact hX i w hi (am_RV_ext h q)
theorem sim_lda (hX : am_Xref X) {i n : Nat} (row : ∀ {x : Nat} {rest : List Value}, ls1[i]? = some (.val (.ref x)) → W p l e R s m args below meth c H locs cells slots Q (F0 m (pc + n) ls1 (.ref x :: rest)) → W p l e R s m args below meth c H locs cells slots Q (F0 m pc ls1 rest))
    (rowN : ∀ {rest : List Value}, ls1[i]? = some (.val .null) → W p l e R s m args below meth c H locs cells slots Q (F0 m (pc + n) ls1 (.null :: rest)) → W p l e R s m args below meth c H locs cells slots Q (F0 m pc ls1 rest)) (hs : am_lda i n pc ls st h = some S) (Rl : am_Rel k X nL s as0 as ws ls st h ls1 st1 H locs) (go : am_Go p l e R s m args below meth c Q k X nL as0 S cells slots) : W p l e R s m args below meth c H locs cells slots Q (F0 m pc ls1 st1) := by
  unfold am_lda at hs
  split at hs
  · next hv =>
    split at hs
    · cases hs
    · next hne =>
      cases hs
      obtain ⟨t, hl, hst, hw, hP, hD, hS⟩ := Rl
      obtain ⟨w, h1, h2⟩ := am_RL_get hl hv
      obtain ⟨a, rfl⟩ := am_RV_isref hX hne h1
      exact row h2 (go as ws ls1 _ H locs ⟨t, hl, ⟨h1, hst⟩, hw, hP, hD, hS⟩)
  · next hv =>
    cases hs
    obtain ⟨t, hl, hst, hw, hP, hD, hS⟩ := Rl
    obtain ⟨w, rfl, h2⟩ := am_RL_get hl hv
    exact rowN h2 (go as ws ls1 _ H locs ⟨t, hl, ⟨rfl, hst⟩, hw, hP, hD, hS⟩)
  · cases hs
theorem sim_sti (hX : am_Xok X) {i n : Nat} (row : ∀ {x : Int32} {rest : List Value} {lv lv' : List (Nat × Value)}, lv_has ls1 nL lv → i < nL → (i, Value.int x) :: lv.filter (fun q => !(q.1 == i) && !(q.1 + 1 == i && q.2.category == 2)) = lv' → (∀ ls2 : Array Slot, lv_has ls2 nL lv' → W p l e R s m args below meth c H locs cells slots Q (F0 m (pc + n) ls2 rest)) → W p l e R s m args below meth c H locs cells slots Q (F0 m pc ls1 (.int x :: rest))) (hs : am_sti i n pc ls st h = some S) (Rl : am_Rel k X nL s as0 as ws ls st h ls1 st1 H locs) (go : am_Go p l e R s m args below meth c Q k X nL as0 S cells slots) : W p l e R s m args below meth c H locs cells slots Q (F0 m pc ls1 st1) := by
  unfold am_sti at hs
  split at hs
  · split at hs
    · next hi =>
      cases hs
      obtain ⟨t, hl, hst, hw, hP, hD, hS⟩ := Rl
      obtain ⟨r1, rfl, h1⟩ := am_RS_int hst
      exact row (am_full_has hl.1 hl.2.2.1) (by rw [← hl.2.1]; exact hi) rfl (fun ls2 h2 => go as ws ls2 _ H locs ⟨t, am_RL_set1 hX hl hi rfl h2, h1, hw, hP, hD, hS⟩)
    · cases hs
  · cases hs
theorem sim_stl (hX : am_Xok X) {i n : Nat} (row : ∀ {x : Int64} {rest : List Value} {lv lv' : List (Nat × Value)}, lv_has ls1 nL lv → i + 1 < nL → (i, Value.long x) :: lv.filter (fun q => !(q.1 == i) && (!(q.1 == i + 1) && !(q.1 + 1 == i && q.2.category == 2))) = lv' → (∀ ls2 : Array Slot, lv_has ls2 nL lv' → W p l e R s m args below meth c H locs cells slots Q (F0 m (pc + n) ls2 rest)) → W p l e R s m args below meth c H locs cells slots Q (F0 m pc ls1 (.long x :: rest))) (hs : am_stl i n pc ls st h = some S) (Rl : am_Rel k X nL s as0 as ws ls st h ls1 st1 H locs) (go : am_Go p l e R s m args below meth c Q k X nL as0 S cells slots) : W p l e R s m args below meth c H locs cells slots Q (F0 m pc ls1 st1) := by
  unfold am_stl at hs
  split at hs
  · split at hs
    · next hi =>
      cases hs
      obtain ⟨t, hl, hst, hw, hP, hD, hS⟩ := Rl
      obtain ⟨r1, rfl, h1⟩ := am_RS_long hst
      exact row (am_full_has hl.1 hl.2.2.1) (by rw [← hl.2.1]; exact hi) rfl (fun ls2 h2 => go as ws ls2 _ H locs ⟨t, am_RL_set2 hX hl hi rfl h2, h1, hw, hP, hD, hS⟩)
    · cases hs
  · cases hs
theorem sim_sta (hX : am_Xok X) (hX2 : am_Xref X) {i n : Nat} (row : ∀ {x : Nat} {rest : List Value} {lv lv' : List (Nat × Value)}, lv_has ls1 nL lv → i < nL → (i, Value.ref x) :: lv.filter (fun q => !(q.1 == i) && !(q.1 + 1 == i && q.2.category == 2)) = lv' → (∀ ls2 : Array Slot, lv_has ls2 nL lv' → W p l e R s m args below meth c H locs cells slots Q (F0 m (pc + n) ls2 rest)) → W p l e R s m args below meth c H locs cells slots Q (F0 m pc ls1 (.ref x :: rest)))
    (rowN : ∀ {rest : List Value} {lv lv' : List (Nat × Value)}, lv_has ls1 nL lv → i < nL → (i, Value.null) :: lv.filter (fun q => !(q.1 == i) && !(q.1 + 1 == i && q.2.category == 2)) = lv' → (∀ ls2 : Array Slot, lv_has ls2 nL lv' → W p l e R s m args below meth c H locs cells slots Q (F0 m (pc + n) ls2 rest)) → W p l e R s m args below meth c H locs cells slots Q (F0 m pc ls1 (.null :: rest))) (hs : am_sta i n pc ls st h = some S) (Rl : am_Rel k X nL s as0 as ws ls st h ls1 st1 H locs) (go : am_Go p l e R s m args below meth c Q k X nL as0 S cells slots) : W p l e R s m args below meth c H locs cells slots Q (F0 m pc ls1 st1) := by
  unfold am_sta at hs
  split at hs
  · split at hs
    · next hi =>
      cases hs
      obtain ⟨t, hl, hst, hw, hP, hD, hS⟩ := Rl
      obtain ⟨w, r1, rfl, h0, h1⟩ := am_RS_cons hst
      obtain ⟨a, rfl⟩ := am_RV_isref hX2 hi.2 h0
      exact row (am_full_has hl.1 hl.2.2.1) (by rw [← hl.2.1]; exact hi.1) rfl (fun ls2 h2 => go as ws ls2 _ H locs ⟨t, am_RL_set1 hX hl hi.1 h0 h2, h1, hw, hP, hD, hS⟩)
    · cases hs
  · split at hs
    · next hi =>
      cases hs
      obtain ⟨t, hl, hst, hw, hP, hD, hS⟩ := Rl
      obtain ⟨w, r1, rfl, rfl, h1⟩ := am_RS_cons hst
      exact rowN (am_full_has hl.1 hl.2.2.1) (by rw [← hl.2.1]; exact hi) rfl (fun ls2 h2 => go as ws ls2 _ H locs ⟨t, am_RL_set1 hX hl hi rfl h2, h1, hw, hP, hD, hS⟩)
    · cases hs
  · cases hs
theorem sim_inc (hX : am_Xok X) (hx : p.tables.exec = Jvm.exec) (hb : c.code = cc) {i : Nat} {n : Int} (hdg : decode cc pc = .ok (.iinc i n, 3)) (hs : am_inc i n pc ls st h = some S) (Rl : am_Rel k X nL s as0 as ws ls st h ls1 st1 H locs) (go : am_Go p l e R s m args below meth c Q k X nL as0 S cells slots) : W p l e R s m args below meth c H locs cells slots Q (F0 m pc ls1 st1) := by
  unfold am_inc at hs
  split at hs
  · next x hv =>
    cases hs
    obtain ⟨t, hl, hst, hw, hP, hD, hS⟩ := Rl
    obtain ⟨w, rfl, h2⟩ := am_RL_get hl hv
    obtain ⟨j, hj⟩ := List.getElem?_of_mem (am_full_mem h2)
    have hi : i < ls.length := (List.getElem?_eq_some_iff.mp hv).1
    exact lv_iinc hx hb hdg (am_full_has hl.1 hl.2.2.1) hj rfl (by rw [← hl.2.1]; exact hi) rfl (fun ls2 h3 => go as ws ls2 _ H locs ⟨t, am_RL_set1 hX hl hi rfl h3, hst, hw, hP, hD, hS⟩)
  · cases hs
theorem sim_goto (hx : p.tables.exec = Jvm.exec) (hb : c.code = cc) {off : Int} {r1 : Nat} (hdg : decode cc pc = .ok (.goto off, 3)) (ht : (pc : Int) + off = (r1 : Int)) (hs : some (r1, ls, st, h, 0, 0) = some S) (Rl : am_Rel k X nL s as0 as ws ls st h ls1 st1 H locs) (go : am_Go p l e R s m args below meth c Q k X nL as0 S cells slots) : W p l e R s m args below meth c H locs cells slots Q (F0 m pc ls1 st1) := by
  cases hs
  exact lv_goto hx hb hdg ht (go as ws ls1 st1 H locs Rl)
theorem sim_z (hx : p.tables.exec = Jvm.exec) (hb : c.code = cc) {cd : ClassFile.Cond} {off : Int} {r1 : Nat} (hdg : decode cc pc = .ok (.ifCond cd off, 3)) (ht : (pc : Int) + off = (r1 : Int)) (hs : am_z cd pc r1 ls st h = some S) (Rl : am_Rel k X nL s as0 as ws ls st h ls1 st1 H locs) (go : am_Go p l e R s m args below meth c Q k X nL as0 S cells slots) : W p l e R s m args below meth c H locs cells slots Q (F0 m pc ls1 st1) := by
  unfold am_z at hs
  split at hs
  · next x r =>
    unfold am_if at hs
    cases hs
    obtain ⟨t, hl, hst, hw, hP, hD, hS⟩ := Rl
    obtain ⟨r1', rfl, h1⟩ := am_RS_int hst
    have g := go as ws ls1 r1' H locs ⟨t, hl, h1, hw, hP, hD, hS⟩
    dsimp only at g
    cases cd <;> simp only [am_cmp, decide_eq_true_eq] at g
    · exact lv_if_eq hx hb hdg ht (fun q => by rw [if_pos q] at g; exact g) (fun q => by rw [if_neg q] at g; exact g)
    · exact lv_if_ne hx hb hdg ht (fun q => by rw [if_pos q] at g; exact g) (fun q => by rw [if_neg (fun z => z q)] at g; exact g)
    · exact lv_if_lt hx hb hdg ht (fun q => by rw [if_pos q] at g; exact g) (fun q => by rw [if_neg q] at g; exact g)
    · exact lv_if_ge hx hb hdg ht (fun q => by rw [if_pos q] at g; exact g) (fun q => by rw [if_neg q] at g; exact g)
    · exact lv_if_gt hx hb hdg ht (fun q => by rw [if_pos q] at g; exact g) (fun q => by rw [if_neg q] at g; exact g)
    · exact lv_if_le hx hb hdg ht (fun q => by rw [if_pos q] at g; exact g) (fun q => by rw [if_neg q] at g; exact g)
  · cases hs
theorem sim_c2 (hx : p.tables.exec = Jvm.exec) (hb : c.code = cc) {cd : ClassFile.Cond} {off : Int} {r1 : Nat} (hdg : decode cc pc = .ok (.if_icmp cd off, 3)) (ht : (pc : Int) + off = (r1 : Int)) (hs : am_c2 cd pc r1 ls st h = some S) (Rl : am_Rel k X nL s as0 as ws ls st h ls1 st1 H locs) (go : am_Go p l e R s m args below meth c Q k X nL as0 S cells slots) : W p l e R s m args below meth c H locs cells slots Q (F0 m pc ls1 st1) := by
  unfold am_c2 at hs
  split at hs
  · next x r =>
    unfold am_if at hs
    cases hs
    obtain ⟨t, hl, hst, hw, hP, hD, hS⟩ := Rl
    obtain ⟨r1', rfl, h1⟩ := am_RS_int hst
    obtain ⟨r2', rfl, h2⟩ := am_RS_int h1
    have g := go as ws ls1 r2' H locs ⟨t, hl, h2, hw, hP, hD, hS⟩
    dsimp only at g
    cases cd <;> simp only [am_cmp, decide_eq_true_eq] at g
    · exact lv_icmp_eq hx hb hdg ht (fun q => by rw [if_pos q] at g; exact g) (fun q => by rw [if_neg q] at g; exact g)
    · exact lv_icmp_ne hx hb hdg ht (fun q => by rw [if_pos q] at g; exact g) (fun q => by rw [if_neg (fun z => z q)] at g; exact g)
    · exact lv_icmp_lt hx hb hdg ht (fun q => by rw [if_pos q] at g; exact g) (fun q => by rw [if_neg q] at g; exact g)
    · exact lv_icmp_ge hx hb hdg ht (fun q => by rw [if_pos q] at g; exact g) (fun q => by rw [if_neg q] at g; exact g)
    · exact lv_icmp_gt hx hb hdg ht (fun q => by rw [if_pos q] at g; exact g) (fun q => by rw [if_neg q] at g; exact g)
    · exact lv_icmp_le hx hb hdg ht (fun q => by rw [if_pos q] at g; exact g) (fun q => by rw [if_neg q] at g; exact g)
  · cases hs
theorem sim_nul (hXr : am_Xref X) {tn tr : Nat} (rowN : ∀ {rest : List Value}, W p l e R s m args below meth c H locs cells slots Q (F0 m tn ls1 rest) → W p l e R s m args below meth c H locs cells slots Q (F0 m pc ls1 (.null :: rest)))
    (row : ∀ {x : Nat} {rest : List Value}, W p l e R s m args below meth c H locs cells slots Q (F0 m tr ls1 rest) → W p l e R s m args below meth c H locs cells slots Q (F0 m pc ls1 (.ref x :: rest))) (hs : am_nul tn tr ls st h = some S) (Rl : am_Rel k X nL s as0 as ws ls st h ls1 st1 H locs) (go : am_Go p l e R s m args below meth c Q k X nL as0 S cells slots) : W p l e R s m args below meth c H locs cells slots Q (F0 m pc ls1 st1) := by
  unfold am_nul at hs
  split at hs
  · cases hs
    obtain ⟨t, hl, hst, hw, hP, hD, hS⟩ := Rl
    obtain ⟨w, r1, rfl, rfl, h1⟩ := am_RS_cons hst
    exact rowN (go as ws ls1 _ H locs ⟨t, hl, h1, hw, hP, hD, hS⟩)
  · split at hs
    · next hi =>
      cases hs
      obtain ⟨t, hl, hst, hw, hP, hD, hS⟩ := Rl
      obtain ⟨w, r1, rfl, h0, h1⟩ := am_RS_cons hst
      obtain ⟨a, rfl⟩ := am_RV_isref hXr hi h0
      exact row (go as ws ls1 _ H locs ⟨t, hl, h1, hw, hP, hD, hS⟩)
    · cases hs
  · cases hs
theorem sim_acq (hXr : am_Xref X) (hXf : am_Xfun X) (hx : p.tables.exec = Jvm.exec) (hb : c.code = cc) {off : Int} {r1 : Nat} (hdg : decode cc pc = .ok (.if_acmp .eq off, 3)) (ht : (pc : Int) + off = (r1 : Int)) (hs : am_acq pc r1 ls st h = some S) (Rl : am_Rel k X nL s as0 as ws ls st h ls1 st1 H locs) (go : am_Go p l e R s m args below meth c Q k X nL as0 S cells slots) : W p l e R s m args below meth c H locs cells slots Q (F0 m pc ls1 st1) := by
  unfold am_acq at hs
  split at hs
  · split at hs
    · next hab =>
      obtain ⟨rfl, hne⟩ := hab
      cases hs
      obtain ⟨t, hl, hst, hw, hP, hD, hS⟩ := Rl
      obtain ⟨w, r1', rfl, h0, h1⟩ := am_RS_cons hst
      obtain ⟨w2, r2', rfl, h3, h4⟩ := am_RS_cons h1
      obtain rfl := am_RV_same hXf hne h0 h3
      obtain ⟨a, rfl⟩ := am_RV_isref hXr hne h0
      exact lv_acmp_eq (rx := some a) (ry := some a) hx hb hdg ht (fun _ => go as ws ls1 _ H locs ⟨t, hl, h4, hw, hP, hD, hS⟩) (fun q => absurd rfl q)
    · cases hs
  · cases hs
theorem sim_tsw (hx : p.tables.exec = Jvm.exec) (hb : c.code = cc) {dflt lo hi : Int} {offs : Array Int} {len : Nat} (hdg : decode cc pc = .ok (.tableswitch dflt lo hi offs, len)) (hs : am_tsw pc dflt lo hi offs ls st h = some S) (Rl : am_Rel k X nL s as0 as ws ls st h ls1 st1 H locs) (go : am_Go p l e R s m args below meth c Q k X nL as0 S cells slots) : W p l e R s m args below meth c H locs cells slots Q (F0 m pc ls1 st1) := by
  unfold am_tsw at hs
  split at hs
  · obtain ⟨t, hl, hst, hw, hP, hD, hS⟩ := Rl
    obtain ⟨r1, rfl, h1⟩ := am_RS_int hst
    split at hs
    · next ho =>
      split at hs
      · next hz =>
        cases hs
        exact lv_tableOut hx hb hdg ho (Int.toNat_of_nonneg hz).symm (go as ws ls1 _ H locs ⟨t, hl, h1, hw, hP, hD, hS⟩)
      · cases hs
    · next ho =>
      split at hs
      · next off hof =>
        split at hs
        · next hz =>
          cases hs
          exact lv_tableIn hx hb hdg (fun q => ho (Or.inl q)) (fun q => ho (Or.inr q)) hof (Int.toNat_of_nonneg hz).symm (go as ws ls1 _ H locs ⟨t, hl, h1, hw, hP, hD, hS⟩)
        · cases hs
      · cases hs
  · cases hs
end AMS
end
section
/-! ===== the simulation: instructions that read and write cells ===== -/
def am_T : List Jvm.Cond := lw_tbl.filter goodWord
theorem am_T_in {w : Jvm.Cond} (h1 : w ∈ lw_tbl) (h2 : goodWord w = true) : w ∈ am_T := List.mem_filter.mpr ⟨h1, h2⟩
theorem am_T_good {w : Jvm.Cond} (h : w ∈ am_T) : goodWord w = true := (List.mem_filter.mp h).2
theorem am_g0 : ∀ w ∈ u_ws "PebbleProofs$Board" am_T0 9, goodWord w = true := by decide +kernel
theorem am_g1 : ∀ w ∈ u_ws "PebbleProofs$FailingPiles" am_T1 12, goodWord w = true := by decide +kernel
theorem am_g2 : ∀ w ∈ u_ws "PebbleProofs$History" am_T2 3, goodWord w = true := by decide +kernel
theorem am_g3 : ∀ w ∈ u_ws "PebbleProofs$Outlook" am_T3 9, goodWord w = true := by decide +kernel
theorem am_g4 : ∀ w ∈ u_ws "PebbleProofs$SetupText" am_T4 7, goodWord w = true := by decide +kernel
theorem am_g5 : ∀ w ∈ u_ws "PebbleProofs" am_T5 9, goodWord w = true := by decide +kernel
theorem am_g6 : ∀ w ∈ u_ws "PebbleProofsLaw$Why" am_T6 1, goodWord w = true := by decide +kernel
theorem am_g7 : ∀ w ∈ u_ws "PebbleProofsLaw$Yard" am_T7 8, goodWord w = true := by decide +kernel
theorem am_g8 : ∀ w ∈ u_ws "java/lang/String" am_T8 4, goodWord w = true := by decide +kernel
theorem am_g9 : ∀ w ∈ u_ws "java/lang/StringBuilder" am_T9 4, goodWord w = true := by decide +kernel
theorem am_g10 : ∀ w ∈ u_ws "java/util/ArrayList" am_T10 3, goodWord w = true := by decide +kernel
theorem am_g11 : ∀ w ∈ u_ws "java/util/ArrayList$Itr" am_T11 4, goodWord w = true := by decide +kernel
theorem am_cl_lt {ci : Nat} {q : vw_C} (h : am_cl[ci]? = some q) : ci < 12 := (List.getElem?_eq_some_iff.mp h).1
theorem am_ws_in {ci : Nat} {C : String} {T : u_T} {N : Nat} (h : am_cl[ci]? = some (C, T, N)) : ∀ w ∈ u_ws C T N, w ∈ am_T := by
  have h7 := am_cl_lt h
  match ci, h7, h with
  | 0, _, h => cases h; exact fun w hw => am_T_in (am_w0 w hw) (am_g0 w hw)
  | 1, _, h => cases h; exact fun w hw => am_T_in (am_w1 w hw) (am_g1 w hw)
  | 2, _, h => cases h; exact fun w hw => am_T_in (am_w2 w hw) (am_g2 w hw)
  | 3, _, h => cases h; exact fun w hw => am_T_in (am_w3 w hw) (am_g3 w hw)
  | 4, _, h => cases h; exact fun w hw => am_T_in (am_w4 w hw) (am_g4 w hw)
  | 5, _, h => cases h; exact fun w hw => am_T_in (am_w5 w hw) (am_g5 w hw)
  | 6, _, h => cases h; exact fun w hw => am_T_in (am_w6 w hw) (am_g6 w hw)
  | 7, _, h => cases h; exact fun w hw => am_T_in (am_w7 w hw) (am_g7 w hw)
  | 8, _, h => cases h; exact fun w hw => am_T_in (am_w8 w hw) (am_g8 w hw)
  | 9, _, h => cases h; exact fun w hw => am_T_in (am_w9 w hw) (am_g9 w hw)
  | 10, _, h => cases h; exact fun w hw => am_T_in (am_w10 w hw) (am_g10 w hw)
  | 11, _, h => cases h; exact fun w hw => am_T_in (am_w11 w hw) (am_g11 w hw)
theorem am_ty_ok {ci : Nat} {C : String} {T : u_T} {N : Nat} (h : am_cl[ci]? = some (C, T, N)) : ∀ k, k < N → parseFieldDescriptor (T k).2.2.1 = some (am_ft ci k) := by
  have h7 := am_cl_lt h
  match ci, h7, h with
  | 0, _, h => cases h; exact am_t0_ok
  | 1, _, h => cases h; exact am_t1_ok
  | 2, _, h => cases h; exact am_t2_ok
  | 3, _, h => cases h; exact am_t3_ok
  | 4, _, h => cases h; exact am_t4_ok
  | 5, _, h => cases h; exact am_t5_ok
  | 6, _, h => cases h; exact am_t6_ok
  | 7, _, h => cases h; exact am_t7_ok
  | 8, _, h => cases h; exact am_t8_ok
  | 9, _, h => cases h; exact am_t9_ok
  | 10, _, h => cases h; exact am_t10_ok
  | 11, _, h => cases h; exact am_t11_ok
theorem am_nm_ok {ci : Nat} {C : String} {T : u_T} {N : Nat} (h : am_cl[ci]? = some (C, T, N)) : ∀ a, a < N → ∀ b, b < N → a ≠ b → (T a).2.1 ≠ (T b).2.1 := by
  have h7 := am_cl_lt h
  match ci, h7, h with
  | 0, _, h => cases h; exact am_n0
  | 1, _, h => cases h; exact am_n1
  | 2, _, h => cases h; exact am_n2
  | 3, _, h => cases h; exact am_n3
  | 4, _, h => cases h; exact am_n4
  | 5, _, h => cases h; exact am_n5
  | 6, _, h => cases h; exact am_n6
  | 7, _, h => cases h; exact am_n7
  | 8, _, h => cases h; exact am_n8
  | 9, _, h => cases h; exact am_n9
  | 10, _, h => cases h; exact am_n10
  | 11, _, h => cases h; exact am_n11
theorem am_cn_ok {ci : Nat} {C : String} {T : u_T} {N : Nat} (h : am_cl[ci]? = some (C, T, N)) : am_cn ci = C := by
  have h7 := am_cl_lt h
  match ci, h7, h with
  | 0, _, h => cases h; rfl
  | 1, _, h => cases h; rfl
  | 2, _, h => cases h; rfl
  | 3, _, h => cases h; rfl
  | 4, _, h => cases h; rfl
  | 5, _, h => cases h; rfl
  | 6, _, h => cases h; rfl
  | 7, _, h => cases h; rfl
  | 8, _, h => cases h; rfl
  | 9, _, h => cases h; rfl
  | 10, _, h => cases h; rfl
  | 11, _, h => cases h; rfl
theorem am_fd_all : ∀ ci, ci < 12 → ∀ q, am_cl[ci]? = some q → (am_fd ci).length = q.2.2 ∧ ∀ j, j < q.2.2 → defaultValue (am_ft ci j) = vp_V (am_fd ci) j := by
  intro ci h7 q h
  match ci, h7, h with
  | 0, _, h => cases h; exact ⟨rfl, by decide +kernel⟩
  | 1, _, h => cases h; exact ⟨rfl, by decide +kernel⟩
  | 2, _, h => cases h; exact ⟨rfl, by decide +kernel⟩
  | 3, _, h => cases h; exact ⟨rfl, by decide +kernel⟩
  | 4, _, h => cases h; exact ⟨rfl, by decide +kernel⟩
  | 5, _, h => cases h; exact ⟨rfl, by decide +kernel⟩
  | 6, _, h => cases h; exact ⟨rfl, by decide +kernel⟩
  | 7, _, h => cases h; exact ⟨rfl, by decide +kernel⟩
  | 8, _, h => cases h; exact ⟨rfl, by decide +kernel⟩
  | 9, _, h => cases h; exact ⟨rfl, by decide +kernel⟩
  | 10, _, h => cases h; exact ⟨rfl, by decide +kernel⟩
  | 11, _, h => cases h; exact ⟨rfl, by decide +kernel⟩
/-- a new object's fields are related to themselves -/
theorem am_fd_rs (X : Nat → Value → Prop) (as : List Nat) : ∀ ci, ci < 12 → am_RS X as (am_fd ci) (am_fd ci) := by
  intro ci h7
  have key : ∀ vs : List Value, (∀ v ∈ vs, (v = .int 0 ∨ v = .long 0 ∨ v = .null)) → am_RS X as vs vs := by
    intro vs
    induction vs with
    | nil => intro _; trivial
    | cons v r ih =>
      intro hv
      refine ⟨?_, ih (fun u hu => hv u (List.mem_cons_of_mem _ hu))⟩
      rcases hv v List.mem_cons_self with rfl | rfl | rfl <;> rfl
  refine key _ ?_
  match ci, h7 with
  | 0, _ => decide +kernel
  | 1, _ => decide +kernel
  | 2, _ => decide +kernel
  | 3, _ => decide +kernel
  | 4, _ => decide +kernel
  | 5, _ => decide +kernel
  | 6, _ => decide +kernel
  | 7, _ => decide +kernel
  | 8, _ => decide +kernel
  | 9, _ => decide +kernel
  | 10, _ => decide +kernel
  | 11, _ => decide +kernel
theorem am_P_cl {D : va_G} {ws : va_W} {H : Heap} (hP : va_P D am_cl ws H) {i a ci : Nat} {gs : List Value} (h : ws[i]? = some (a, .inr (ci, gs))) : ∃ q, am_cl[ci]? = some q := by
  obtain ⟨r, h1, -⟩ := hP i _ h
  exact ⟨r, h1⟩
theorem am_ra_eq {U : State} {a b : ClassId} {ty : FieldType} (h1 : va_RA U a ty) (h2 : va_RA U b ty) : a = b := by
  cases ty with
  | object C =>
    obtain ⟨_, _, _, _, _, q1⟩ := h1
    obtain ⟨_, _, _, _, _, q2⟩ := h2
    rw [q1] at q2
    exact Option.some.inj q2
  | _ =>
    have q1 : U.vm.findClass _ = some a := h1
    have q2 : U.vm.findClass _ = some b := h2
    rw [q1] at q2
    exact Option.some.inj q2
theorem am_tys_at {G : Nat → ClassId} {t : Nat} (h : t < 8) : (am_tys G)[t]? = some (G t, am_el t) := by
  match t, h with
  | 0, _ => rfl
  | 1, _ => rfl
  | 2, _ => rfl
  | 3, _ => rfl
  | 4, _ => rfl
  | 5, _ => rfl
  | 6, _ => rfl
  | 7, _ => rfl
theorem am_RC_obj {X : Nat → Value → Prop} {G : Nat → ClassId} {as : List Nat} {ci : Nat} {fs gs : List Value} (h : am_RS X as fs gs) : am_RC X G as (.inr (ci, fs)) (.inr (ci, gs)) := ⟨rfl, h⟩
theorem am_RC_arr {X : Nat → Value → Prop} {G : Nat → ClassId} {as : List Nat} {t n : Nat} {a b : AVc} (ht : t < 8) (h : am_RA as a b) : am_RC X G as (.inl (t, n, a)) (.inl (G t, n, b)) := ⟨rfl, rfl, ht, h⟩
section AMH
variable {p : Program} {l : Launch} {e : Env} {R : Room} {s : State} {m : MethodId} {args : Array Value} {below : List Frame} {meth : Method} {c : Code} {Q : State → Prop} {k : AK} {X : Nat → Value → Prop} {nL : Nat} {as0 as : List Nat} {ws : va_W} {ls : ALs} {st : List Value} {h : AHp} {ls1 : Array Slot} {st1 : List Value} {H : Heap} {locs : List Loc} {cells slots pc : Nat} {S : ASt} {cc : ByteArray} {own : String}
theorem am_newK {cA : ClassId} {ty : FieldType} {t : Nat} (ht : t < 8) (hty : am_el t = ty) (h : va_K k.2.1 am_cl (am_tys k.2.2.1 ++ [(cA, ty)]) s) (hK : va_K k.2.1 am_cl (am_tys k.2.2.1) s) : cA = k.2.2.1 t := by
  have h1 := (h.2 8 (cA, ty) rfl).2
  have h2 := (hK.2 t (k.2.2.1 t, am_el t) (am_tys_at ht)).2
  rw [hty] at h2
  exact am_ra_eq h1 h2
theorem am_fits {ty : FieldType} {v w : Value} (hX : am_Xref X) (hv : am_RV X as v w) (hne : ¬ v = .ref (am_SB + 1)) (hf : fits ty v = true) (hn : narrow ty v = v) : fits ty w = true ∧ narrow ty w = w := by
  cases v with
  | ref i =>
    obtain ⟨a, rfl⟩ := am_RV_isref hX (fun q => hne (by rw [q])) hv
    cases ty <;> first | exact ⟨hf, rfl⟩ | cases hf
  | int x => cases hv; exact ⟨hf, hn⟩
  | long x => cases hv; exact ⟨hf, hn⟩
  | null => cases hv; exact ⟨hf, hn⟩
  | float x => exact False.elim hv
  | double x => exact False.elim hv
  | retAddr x => exact False.elim hv
theorem sim_new (hx : p.tables.exec = Jvm.exec) (hb : c.code = cc) (hts : ∀ w ∈ am_T, w.before args s = true) (hown : s.vm.findClass own = some m.cls) (hK : va_K k.2.1 am_cl (am_tys k.2.2.1) s) (hz : k.1 ≤ s.heap.size) {idx r1 N : Nat} {C : String} {T : u_T} (hc : am_cl[r1]? = some (C, T, N)) (hdg : decode cc pc = .ok (.new idx, 3)) (hcl : Jvm.Cond.classLink own idx C ∈ am_T) (hin : Jvm.Cond.instantiable C N ∈ am_T) (hini : Jvm.Cond.initialized C ∈ am_T)
    (hrc : cells + S.2.2.2.2.1 ≤ R.cells) (hrs : slots + S.2.2.2.2.2 ≤ R.slots) (hs : am_new pc r1 ls st h = some S) (Rl : am_Rel k X nL s as0 as ws ls st h ls1 st1 H locs) (go : am_Go p l e R s m args below meth c Q k X nL as0 S cells slots) : W p l e R s m args below meth c H locs cells slots Q (F0 m pc ls1 st1) := by
  unfold am_new at hs
  split at hs
  · next hlen9 =>
    have hlen := hlen9.1
    cases hs
    obtain ⟨⟨t, ht⟩, hl, hst, hw, hP, hD, hS⟩ := Rl
    obtain ⟨hfl, hfd⟩ := am_fd_all r1 (am_cl_lt hc) _ hc
    dsimp only at hrc hrs go hfl
    refine va_new (ci := r1) (fs := am_fd r1) (A := am_A k) (C := C) (T := T) (N := N) hx hb hts (am_ws_in hc) (am_ft r1) (am_ty_ok hc) hown (hts _ hcl) (hts _ hin) (hts _ hini) hK hP hD hS (fun q hq => Nat.le_trans hz hq) hc (fun j hj => hfd j hj) hrc (by rw [hfl] at hrs; exact hrs) hdg (fun q H1 hP1 hD1 hS1 => ?_)
    have hn : as[h.length]? = none := List.getElem?_eq_none (by rw [hw.1]; exact Nat.le_refl _)
    have g := go (as ++ [q]) (ws ++ [(q, .inr (r1, am_fd r1))]) ls1 (.ref q :: st1) H1 locs ⟨⟨t ++ [q], by rw [ht, List.append_assoc]⟩, am_RL_app hl, ⟨am_RV_mk hlen (by rw [List.getElem?_append_right (by rw [hw.1]; exact Nat.le_refl _), hw.1, Nat.sub_self]; rfl), am_RS_app hst⟩, am_RW_push hw hlen (am_RC_obj (am_fd_rs X as r1 (am_cl_lt hc))), hP1, hD1, hS1⟩
    dsimp only at g
    rw [hfl] at g
    exact g
  · cases hs
theorem sim_newa (hx : p.tables.exec = Jvm.exec) (hb : c.code = cc) (hK : va_K k.2.1 am_cl (am_tys k.2.2.1) s) (hz : k.1 ≤ s.heap.size) (h0 : (Jvm.Cond.arrayClass .int).before args s = true) (h1 : (Jvm.Cond.arrayClass .boolean).before args s = true) (h2 : (Jvm.Cond.arrayClass .byte).before args s = true) {ty : ArrayType} (hdg : decode cc pc = .ok (.newarray ty, 2))
    (hrc : cells + S.2.2.2.2.1 ≤ R.cells) (hrs : slots + S.2.2.2.2.2 ≤ R.slots) (hs : am_newa ty pc ls st h = some S) (Rl : am_Rel k X nL s as0 as ws ls st h ls1 st1 H locs) (go : am_Go p l e R s m args below meth c Q k X nL as0 S cells slots) : W p l e R s m args below meth c H locs cells slots Q (F0 m pc ls1 st1) := by
  unfold am_newa at hs
  split at hs
  · next n r =>
    split at hs
    · next hc =>
      obtain ⟨hlen, hn0, hn1⟩ := hc
      obtain ⟨⟨t, ht⟩, hl, hst, hw, hP, hD, hS⟩ := Rl
      obtain ⟨r', rfl, hst'⟩ := am_RS_int hst
      have hneg : ¬ n < 0 := by
        rw [Int32.lt_iff_toInt_lt]
        have : (0 : Int32).toInt = 0 := rfl
        omega
      have hcl : n.toNatClampNeg = n.toInt.toNat := rfl
      have hlt : n.toNatClampNeg < 1000000 := by rw [hcl]; omega
      have hA : ∀ q, s.heap.size ≤ q → am_A k q := fun q hq => Nat.le_trans hz hq
      have hnew : ∀ q : Nat, (as ++ [q])[h.length]? = some q := fun q => by rw [List.getElem?_append_right (by rw [hw.1]; exact Nat.le_refl _), hw.1, Nat.sub_self]; rfl
      split at hs
      · cases hs
        refine va_newa (a0 := (n.toNatClampNeg, .inl (fun _ => 0))) (atype := .int) (ty := .int) (A := am_A k) hx hb h0 rfl hK hP hD hS hA (fun cA => rfl) hneg rfl (by show n.toNatClampNeg * 4 ≤ 536870912; omega) hrc hrs hdg (fun q cA H1 hK1 hP1 hD1 hS1 => ?_)
        have hcA := am_newK (t := 0) (by decide) rfl hK1 hK
        subst hcA
        exact go (as ++ [q]) _ ls1 (.ref q :: r') H1 locs ⟨⟨t ++ [q], by rw [ht, List.append_assoc]⟩, am_RL_app hl, ⟨am_RV_mk hlen (hnew q), am_RS_app hst'⟩, am_RW_push hw hlen (am_RC_arr (b := .inl (fun _ => 0)) (by decide) rfl), hP1, hD1, hS1⟩
      · cases hs
        refine va_newa (a0 := (n.toNatClampNeg, .inl (fun _ => 0))) (atype := .boolean) (ty := .boolean) (A := am_A k) hx hb h1 rfl hK hP hD hS hA (fun cA => rfl) hneg rfl (by show n.toNatClampNeg * 1 ≤ 536870912; omega) hrc hrs hdg (fun q cA H1 hK1 hP1 hD1 hS1 => ?_)
        have hcA := am_newK (t := 1) (by decide) rfl hK1 hK
        subst hcA
        exact go (as ++ [q]) _ ls1 (.ref q :: r') H1 locs ⟨⟨t ++ [q], by rw [ht, List.append_assoc]⟩, am_RL_app hl, ⟨am_RV_mk hlen (hnew q), am_RS_app hst'⟩, am_RW_push hw hlen (am_RC_arr (b := .inl (fun _ => 0)) (by decide) rfl), hP1, hD1, hS1⟩
      · cases hs
        refine va_newa (a0 := (n.toNatClampNeg, .inl (fun _ => 0))) (atype := .byte) (ty := .byte) (A := am_A k) hx hb h2 rfl hK hP hD hS hA (fun cA => rfl) hneg rfl (by show n.toNatClampNeg * 1 ≤ 536870912; omega) hrc hrs hdg (fun q cA H1 hK1 hP1 hD1 hS1 => ?_)
        have hcA := am_newK (t := 2) (by decide) rfl hK1 hK
        subst hcA
        exact go (as ++ [q]) _ ls1 (.ref q :: r') H1 locs ⟨⟨t ++ [q], by rw [ht, List.append_assoc]⟩, am_RL_app hl, ⟨am_RV_mk hlen (hnew q), am_RS_app hst'⟩, am_RW_push hw hlen (am_RC_arr (b := .inl (fun _ => 0)) (by decide) rfl), hP1, hD1, hS1⟩
      · cases hs
    · cases hs
  · cases hs
theorem sim_newq (hx : p.tables.exec = Jvm.exec) (hb : c.code = cc) (hown : s.vm.findClass own = some m.cls) (hK : va_K k.2.1 am_cl (am_tys k.2.2.1) s) (hz : k.1 ≤ s.heap.size) (h3 : va_AO "PebbleProofs$Board" s) (h4 : va_AO "PebbleProofs$FailingPiles" s) (h5 : va_AO "java/lang/Object" s) {idx r1 : Nat} (hcl : (r1 = 3 → (Jvm.Cond.classLink own idx "PebbleProofs$Board").before args s = true) ∧ (r1 = 4 → (Jvm.Cond.classLink own idx "PebbleProofs$FailingPiles").before args s = true) ∧ (r1 = 5 → (Jvm.Cond.classLink own idx "java/lang/Object").before args s = true)) (hdg : decode cc pc = .ok (.anewarray idx, 3))
    (hrc : cells + S.2.2.2.2.1 ≤ R.cells) (hrs : slots + S.2.2.2.2.2 ≤ R.slots) (hs : am_newq pc r1 ls st h = some S) (Rl : am_Rel k X nL s as0 as ws ls st h ls1 st1 H locs) (go : am_Go p l e R s m args below meth c Q k X nL as0 S cells slots) : W p l e R s m args below meth c H locs cells slots Q (F0 m pc ls1 st1) := by
  unfold am_newq at hs
  split at hs
  · next n r =>
    split at hs
    · next hc =>
      obtain ⟨hlen, hn0, hn1, hr⟩ := hc
      obtain ⟨⟨t, ht⟩, hl, hst, hw, hP, hD, hS⟩ := Rl
      obtain ⟨r', rfl, hst'⟩ := am_RS_int hst
      have hneg : ¬ n < 0 := by
        rw [Int32.lt_iff_toInt_lt]
        have : (0 : Int32).toInt = 0 := rfl
        omega
      have hc0 : n.toNatClampNeg = n.toInt.toNat := rfl
      have hlt : n.toNatClampNeg < 1000000 := by rw [hc0]; omega
      have hA : ∀ q, s.heap.size ≤ q → am_A k q := fun q hq => Nat.le_trans hz hq
      have hnew : ∀ q : Nat, (as ++ [q])[h.length]? = some q := fun q => by rw [List.getElem?_append_right (by rw [hw.1]; exact Nat.le_refl _), hw.1, Nat.sub_self]; rfl
      cases hs
      rcases hr with rfl | rfl | rfl
      · refine va_newq (C := "PebbleProofs$Board") (A := am_A k) hx hb hown (hcl.1 rfl) h3 hK hP hD hS hA hneg rfl (by omega) hrc hrs hdg (fun q cA H1 hK1 hP1 hD1 hS1 => ?_)
        have hcA := am_newK (t := 3) (by decide) rfl hK1 hK
        subst hcA
        exact go (as ++ [q]) _ ls1 (.ref q :: r') H1 locs ⟨⟨t ++ [q], by rw [ht, List.append_assoc]⟩, am_RL_app hl, ⟨am_RV_mk hlen (hnew q), am_RS_app hst'⟩, am_RW_push hw hlen (am_RC_arr (b := .inr (.inr (.inr (.inr (fun _ => none))))) (by decide) (fun j => ⟨fun _ => rfl, fun i q => by cases q⟩)), hP1, hD1, hS1⟩
      · refine va_newq (C := "PebbleProofs$FailingPiles") (A := am_A k) hx hb hown (hcl.2.1 rfl) h4 hK hP hD hS hA hneg rfl (by omega) hrc hrs hdg (fun q cA H1 hK1 hP1 hD1 hS1 => ?_)
        have hcA := am_newK (t := 4) (by decide) rfl hK1 hK
        subst hcA
        exact go (as ++ [q]) _ ls1 (.ref q :: r') H1 locs ⟨⟨t ++ [q], by rw [ht, List.append_assoc]⟩, am_RL_app hl, ⟨am_RV_mk hlen (hnew q), am_RS_app hst'⟩, am_RW_push hw hlen (am_RC_arr (b := .inr (.inr (.inr (.inr (fun _ => none))))) (by decide) (fun j => ⟨fun _ => rfl, fun i q => by cases q⟩)), hP1, hD1, hS1⟩
      · refine va_newq (C := "java/lang/Object") (A := am_A k) hx hb hown (hcl.2.2 rfl) h5 hK hP hD hS hA hneg rfl (by omega) hrc hrs hdg (fun q cA H1 hK1 hP1 hD1 hS1 => ?_)
        have hcA := am_newK (t := 5) (by decide) rfl hK1 hK
        subst hcA
        exact go (as ++ [q]) _ ls1 (.ref q :: r') H1 locs ⟨⟨t ++ [q], by rw [ht, List.append_assoc]⟩, am_RL_app hl, ⟨am_RV_mk hlen (hnew q), am_RS_app hst'⟩, am_RW_push hw hlen (am_RC_arr (b := .inr (.inr (.inr (.inr (fun _ => none))))) (by decide) (fun j => ⟨fun _ => rfl, fun i q => by cases q⟩)), hP1, hD1, hS1⟩
    · cases hs
  · cases hs
end AMH
end
section
/-! ===== ROWS OF ROWS: multianewarray of two dimensions, as a row of the walk ===== -/
def mu_refs (h0 i : Nat) : Nat → Value := fun j => if j < i then .ref (h0 + 1 + j) else .null
/-- behind i rows of M places dv in an outer row of N places -/
def mu_st (s : State) (cA comp : ClassId) (N M : Nat) (dv : Value) : Nat → State
  | 0 => s.pushCell (arrV cA N (mu_refs s.heap.size 0))
  | i + 1 => ((mu_st s cA comp N M dv i).pushCell (arrV comp M (fun _ => dv))).setCell s.heap.size (arrV cA N (mu_refs s.heap.size (i + 1)))
theorem mu_next (cA : ClassId) (N h0 i : Nat) : (arrV cA N (mu_refs h0 i)).setSlot i (.ref (h0 + 1 + i)) = arrV cA N (mu_refs h0 (i + 1)) := by
  rw [arrV_store]
  congr 1
  funext j
  unfold updV mu_refs
  by_cases q : j = i
  · subst q; rw [if_pos rfl, if_pos (Nat.lt_succ_self _)]
  · rw [if_neg q]
    by_cases q2 : j < i
    · rw [if_pos q2, if_pos (by omega)]
    · rw [if_neg q2, if_neg (by omega)]
theorem mu_start (cA : ClassId) (N h0 : Nat) : ({ cls := cA, slots := Array.replicate N .null, vm := .none } : Cell) = arrV cA N (mu_refs h0 0) := by
  rw [arrV_new]
  congr 1
theorem mu_facts (s : State) (cA comp : ClassId) (N M : Nat) (dv : Value) : ∀ i, (mu_st s cA comp N M dv i).heap.size = s.heap.size + 1 + i ∧ (mu_st s cA comp N M dv i).heap[s.heap.size]? = some (arrV cA N (mu_refs s.heap.size i)) ∧ (mu_st s cA comp N M dv i).vm = s.vm ∧ (mu_st s cA comp N M dv i).slotsUsed = s.slotsUsed + N + i * M := by
  intro i
  induction i with
  | zero => exact ⟨by simp [mu_st], by simp [mu_st], rfl, by simp [mu_st, arrV_size]⟩
  | succ i ih =>
    obtain ⟨h1, h2, h3, h4⟩ := ih
    have hlt : s.heap.size < (mu_st s cA comp N M dv i).heap.size := by omega
    have hb : ((mu_st s cA comp N M dv i).pushCell (arrV comp M (fun _ => dv))).heap[s.heap.size]? = some (arrV cA N (mu_refs s.heap.size i)) := by rw [State.heap_pushCell_of_lt (h := hlt)]; exact h2
    refine ⟨?_, State.heap_setCell_self hb, by simp [mu_st, h3], ?_⟩
    · simp [mu_st, State.setCell, h1]; omega
    · simp [mu_st, h4, arrV_size, Nat.succ_mul]; omega
theorem mu_old (s : State) (cA comp : ClassId) (N M : Nat) (dv : Value) {a : Addr} (ha : a < s.heap.size) : ∀ i, (mu_st s cA comp N M dv i).heap[a]? = s.heap[a]? := by
  intro i
  induction i with
  | zero => exact State.heap_pushCell_of_lt _ _ ha
  | succ i ih =>
    have h1 := (mu_facts s cA comp N M dv i).1
    have hlt : a < (mu_st s cA comp N M dv i).heap.size := Nat.lt_of_lt_of_le ha (by omega)
    show (((mu_st s cA comp N M dv i).pushCell _).setCell s.heap.size _).heap[a]? = _
    rw [State.heap_setCell_other (Nat.ne_of_gt ha), State.heap_pushCell_of_lt (h := hlt)]
    exact ih
theorem mu_row (s : State) (cA comp : ClassId) (N M : Nat) (dv : Value) : ∀ i j, j < i → (mu_st s cA comp N M dv i).heap[s.heap.size + 1 + j]? = some (arrV comp M (fun _ => dv)) := by
  intro i
  induction i with
  | zero => intro j h; exact absurd h (Nat.not_lt_zero _)
  | succ i ih =>
    intro j h
    have h1 := (mu_facts s cA comp N M dv i).1
    show (((mu_st s cA comp N M dv i).pushCell _).setCell s.heap.size _).heap[s.heap.size + 1 + j]? = _
    rw [State.heap_setCell_other (show s.heap.size ≠ s.heap.size + 1 + j by omega)]
    rcases Nat.lt_or_ge j i with hj | hj
    · rw [State.heap_pushCell_of_lt (h := show s.heap.size + 1 + j < (mu_st s cA comp N M dv i).heap.size by omega)]
      exact ih j hj
    · have e : j = i := by omega
      subst e
      rw [← h1]
      exact State.heap_pushCell_size _ _
theorem mu_top (s : State) (f : JFrame) (cA comp : ClassId) (N M : Nat) (dv : Value) : ∀ i, mu_st (s.setTop f) cA comp N M dv i = (mu_st s cA comp N M dv i).setTop f := by
  intro i
  induction i with
  | zero => rfl
  | succ i ih => simp only [mu_st, ih, State.heap_setTop, State.pushCell_setTop, State.setCell_setTop]
section MUW
variable {E : CtlPost} {e : Env} {d : Bool} {acts : List Action} {s : State}
theorem mu_fits {t : FieldType} (h : t.isReference = true) (v : Value) (hv : v = .null ∨ ∃ a, v = .ref a) : fits t v = true := by
  rcases hv with rfl | ⟨a, rfl⟩ <;> cases t <;> simp [FieldType.isReference] at h <;> rfl
/-- one new array -/
theorem mu_new1 {c comp : ClassId} {k : Class} {ty : FieldType} {len : Nat} {v : Value} (hk : s.vm.classes[c]? = some k) (hkd : k.kind = .array comp ty) (hl : ¬ len > e.platform.arrayLengthLimit) (hh : ¬ len * componentBytes ty > e.platform.maxHeapBytes) (hf : fits ty v = true) (hd : v.isDefault = true) {Q : Addr → Pre}
    (h1 : s.heap.size < e.platform.maxCells) (h2 : s.slotsUsed + len ≤ e.platform.maxSlots) (hq : Q s.heap.size d acts (s.pushCell (arrV c len (fun _ => v)))) : wp (Jvm.newArray c len v) Q E e d acts s := by
  have hfs : ∀ i w, (Array.replicate len v)[i]? = some w → s.fitsSlot c .none i w = true := by
    intro i w hw
    simp only [Array.getElem?_replicate] at hw
    split at hw
    · cases hw; simp [State.fitsSlot, State.slotType?, hk, hkd, hf]
    · cases hw
  have hda : allocActs (Array.replicate len v) s.heap.size acts = acts := by
    have hall : ((Array.replicate len v).all (·.isDefault)) = true := by
      rw [Array.all_replicate]; split <;> simp [hd]
    unfold allocActs; rw [if_pos hall]
  rw [← arrV_new] at hq
  simp only [Jvm.newArray, Jvm.arrayFits, wp_bind', W.ask, W.ite, hl, if_false, wp_pure', W.theClass, hk, hkd, hh, W.alloc, W.stop, Option.some.injEq, exists_eq_left', Array.size_replicate, hda]
  rw [if_neg (by omega)]
  exact ⟨h1, h2, hfs, hq⟩
theorem mu_inner {comp cc : ClassId} {kc : Class} {ty : FieldType} {m : Int32} (hkc : s.vm.classes[comp]? = some kc) (hkd : kc.kind = .array cc ty) (hm : ¬ m < 0) (hl : ¬ m.toNatClampNeg > e.platform.arrayLengthLimit) (hh : ¬ m.toNatClampNeg * componentBytes ty > e.platform.maxHeapBytes) (hf : fits ty (defaultValue ty) = true) (hd : (defaultValue ty).isDefault = true)
    (h1 : s.heap.size < e.platform.maxCells) (h2 : s.slotsUsed + m.toNatClampNeg ≤ e.platform.maxSlots) {Q : Addr → Pre} (hq : Q s.heap.size d acts (s.pushCell (arrV comp m.toNatClampNeg (fun _ => defaultValue ty)))) : wp (multianewarray.make comp [m]) Q E e d acts s := by
  rw [multianewarray.make]
  simp only [wp_bind', W.ite, hm, if_false, wp_pure', W.theClass, hkc, hkd, Option.some.injEq, exists_eq_left']
  exact mu_new1 hkc hkd hl hh hf hd h1 h2 hq
theorem mu_make {cA comp cc : ClassId} {k kc : Class} {t0 ty : FieldType} {n m : Int32} (hk : s.vm.classes[cA]? = some k) (hkd : k.kind = .array comp t0) (hr : t0.isReference = true) (hkc : s.vm.classes[comp]? = some kc) (hkdc : kc.kind = .array cc ty) (hn : ¬ n < 0) (hm : ¬ m < 0)
    (hl1 : ¬ n.toNatClampNeg > e.platform.arrayLengthLimit) (hh1 : ¬ n.toNatClampNeg * componentBytes t0 > e.platform.maxHeapBytes) (hl2 : ¬ m.toNatClampNeg > e.platform.arrayLengthLimit) (hh2 : ¬ m.toNatClampNeg * componentBytes ty > e.platform.maxHeapBytes) (hf : fits ty (defaultValue ty) = true) (hd : (defaultValue ty).isDefault = true)
    (hc : s.heap.size + 1 + n.toNatClampNeg ≤ e.platform.maxCells) (hs : s.slotsUsed + n.toNatClampNeg + n.toNatClampNeg * m.toNatClampNeg ≤ e.platform.maxSlots) {Q : Addr → Pre} (hq : ∀ d' acts', Q s.heap.size d' acts' (mu_st s cA comp n.toNatClampNeg m.toNatClampNeg (defaultValue ty) n.toNatClampNeg)) : wp (multianewarray.make cA [n, m]) Q E e d acts s := by
  have hfind : ([m].find? (· < 0)) = none := by simp [hm]
  rw [multianewarray.make]
  simp only [wp_bind', W.ite, hn, if_false, wp_pure', W.theClass, hk, hkd, Option.some.injEq, exists_eq_left']
  refine mu_new1 hk hkd hl1 hh1 (mu_fits hr _ (Or.inl rfl)) rfl (by omega) (by have := Nat.zero_le (n.toNatClampNeg * m.toNatClampNeg); omega) ?_
  simp only [hfind]
  rw [ite_self, wp_bind', Std.Legacy.Range.forIn_eq_forIn_range']
  have hsz : ([:n.toNatClampNeg] : Std.Legacy.Range).size = n.toNatClampNeg := by simp [Std.Legacy.Range.size]
  rw [hsz]
  show wp (forIn (List.range' 0 n.toNatClampNeg 1) PUnit.unit _) _ E e d acts _
  have e0 : s.pushCell (arrV cA n.toNatClampNeg (fun _ => .null)) = mu_st s cA comp n.toNatClampNeg m.toNatClampNeg (defaultValue ty) 0 := by
    show _ = s.pushCell _
    congr 1
  rw [e0]
  refine wp_forIn_inv (fun rest s' => ∃ i, i ≤ n.toNatClampNeg ∧ rest = List.range' i (n.toNatClampNeg - i) ∧ s' = mu_st s cA comp n.toNatClampNeg m.toNatClampNeg (defaultValue ty) i) _ _ ⟨0, Nat.zero_le _, rfl, rfl⟩ ?_ ?_
  · rintro x rest s' d' acts' Q' ⟨i, hi, hl, rfl⟩ hnext
    have hlt : i < n.toNatClampNeg := by
      rcases Nat.lt_or_ge i n.toNatClampNeg with h | h
      · exact h
      · rw [show n.toNatClampNeg - i = 0 by omega] at hl; simp at hl
    have hl2' : x :: rest = i :: List.range' (i + 1) (n.toNatClampNeg - (i + 1)) := by
      rw [hl, show n.toNatClampNeg - i = (n.toNatClampNeg - (i + 1)) + 1 by omega, List.range'_succ]
    cases hl2'
    obtain ⟨f1, f2, f3, f4⟩ := mu_facts s cA comp n.toNatClampNeg m.toNatClampNeg (defaultValue ty) x
    have hmul : x * m.toNatClampNeg + m.toNatClampNeg ≤ n.toNatClampNeg * m.toNatClampNeg := by
      have := Nat.mul_le_mul_right m.toNatClampNeg (show x + 1 ≤ n.toNatClampNeg from hlt)
      rw [Nat.succ_mul] at this; exact this
    simp only [wp_bind']
    refine mu_inner (by rw [f3]; exact hkc) hkdc hm hl2 hh2 hf hd (by omega) (by omega) ?_
    have hlt0 : s.heap.size < (mu_st s cA comp n.toNatClampNeg m.toNatClampNeg (defaultValue ty) x).heap.size := by omega
    simp only [wp_bind', W.writeLoc, wp_pure']
    refine ⟨arrV cA n.toNatClampNeg (mu_refs s.heap.size x), by rw [State.heap_pushCell_of_lt (h := hlt0)]; exact f2, by simp [arrV], by rw [arrV_size]; exact hlt, ?_, hnext _ _ _ ⟨x + 1, hlt, rfl, ?_⟩⟩
    · simp [State.fitsSlot, State.slotType?, f3, arrV, hk, hkd, mu_fits hr _ (Or.inr ⟨_, rfl⟩)]
    · rw [f1, mu_next]; rfl
  · rintro s' d' acts' ⟨i, hi, hl, rfl⟩
    have hiN : i = n.toNatClampNeg := by
      rcases Nat.lt_or_ge i n.toNatClampNeg with h | h
      · rw [show n.toNatClampNeg - i = (n.toNatClampNeg - (i + 1)) + 1 by omega, List.range'_succ] at hl; cases hl
      · omega
    subst hiN
    simp only [wp_pure']
    exact hq _ _
end MUW
section MUS
variable {p : Program} {l : Launch} {e : Env} {R : Room} {s : State} {m : MethodId} {args : Array Value} {below : List Frame} {meth : Method} {c : Code} {T : State} {locs : List Loc} {cells slots : Nat} {Q : State → Prop} {H : Heap}
theorem mu_stand (X : Stand p l e R s m args below meth c T locs cells slots) (cA comp : ClassId) (N M : Nat) (dv : Value) : ∀ i, Stand p l e R s m args below meth c (mu_st T cA comp N M dv i) (locs ++ (List.range i).map fun j => ⟨T.heap.size, j⟩) (cells + 1 + i) (slots + N + i * M) := by
  intro i
  induction i with
  | zero =>
    have h := X.pushed (arrV cA N (mu_refs T.heap.size 0))
    rw [arrV_size] at h
    simpa [mu_st] using h
  | succ i ih =>
    obtain ⟨f1, f2, -, -⟩ := mu_facts T cA comp N M dv i
    have hcell : ((mu_st T cA comp N M dv i).pushCell (arrV comp M (fun _ => dv))).heap[T.heap.size]? = some (arrV cA N (mu_refs T.heap.size i)) := by
      rw [State.heap_pushCell_of_lt (h := show T.heap.size < (mu_st T cA comp N M dv i).heap.size by omega)]; exact f2
    have h := (ih.pushed (arrV comp M (fun _ => dv))).stored hcell i (.ref (T.heap.size + 1 + i))
    rw [arrV_size, mu_next] at h
    have e2 : (locs ++ (List.range (i + 1)).map fun j => (⟨T.heap.size, j⟩ : Loc)) = (locs ++ (List.range i).map fun j => (⟨T.heap.size, j⟩ : Loc)) ++ [⟨T.heap.size, i⟩] := by simp [List.range_succ, List.append_assoc]
    have e3 : slots + N + (i + 1) * M = slots + N + i * M + M := by rw [Nat.succ_mul]; omega
    rw [e2, e3]
    exact h
theorem mu_row2 {cc : ByteArray} (hexec : p.tables.exec = Jvm.exec) (hb : c.code = cc) {own : String} {index : Nat} {ty : FieldType} (hown : s.vm.findClass own = some m.cls) (hclink : (Cond.classLink own index ("[" ++ (FieldType.array ty).toString)).before args s = true) (hover : (Cond.arrayOver (.array ty)).before args s = true) (harr : (Cond.arrayClass ty).before args s = true)
    {pc : Nat} {ls : Array Slot} {n k : Int32} {rest : List Value} (hdg : decode cc pc = .ok (.multianewarray index 2, 4)) (hn : ¬ n < 0) (hk : ¬ k < 0) (hb1 : n.toNatClampNeg ≤ 1000) (hb2 : k.toNatClampNeg ≤ 1000) (hcb : componentBytes ty ≤ 8) (hdf : fits ty (defaultValue ty) = true) (hdd : (defaultValue ty).isDefault = true)
    (hcells : cells + (1 + n.toNatClampNeg) ≤ R.cells) (hslots : slots + (n.toNatClampNeg + n.toNatClampNeg * k.toNatClampNeg) ≤ R.slots)
    (kk : ∀ (cA comp : ClassId) (kA kC : Class) (cc2 : ClassId) (H1 : Heap), s.vm.findClass ("[" ++ (FieldType.array ty).toString) = some cA → s.vm.findClass (FieldType.array ty).toString = some comp → s.vm.classes[cA]? = some kA → kA.kind = .array comp (.array ty) → s.vm.classes[comp]? = some kC → kC.kind = .array cc2 ty →
      H1.size = H.size + 1 + n.toNatClampNeg → (∀ q : Nat, q < H.size → H1[q]? = H[q]?) → H1[H.size]? = some (arrV cA n.toNatClampNeg (mu_refs H.size n.toNatClampNeg)) → (∀ j, j < n.toNatClampNeg → H1[H.size + 1 + j]? = some (arrV comp k.toNatClampNeg (fun _ => defaultValue ty))) →
      W p l e R s m args below meth c H1 (locs ++ (List.range n.toNatClampNeg).map fun j => ⟨H.size, j⟩) (cells + (1 + n.toNatClampNeg)) (slots + (n.toNatClampNeg + n.toNatClampNeg * k.toNatClampNeg)) Q (F0 m (pc + 4) ls (.ref H.size :: rest))) :
    W p l e R s m args below meth c H locs cells slots Q (F0 m pc ls (.int k :: .int n :: rest)) := by
  intro T hT X
  subst hT; subst hb
  have hpl : e.platform.magicAccessors = ({} : Platform).magicAccessors := by rw [X.admits.platform]
  obtain ⟨comp, cA, kA, hcomp, -, hkA, hkindA, hnameA⟩ := arrayOverA_spec hover
  obtain ⟨comp', kC, cc2, hcomp', hkC, hkindC⟩ := Cond.arrayClass_spec harr
  obtain rfl : comp' = comp := Option.some.inj (hcomp'.symm.trans hcomp)
  obtain ⟨c0, hfc0, hcl⟩ := Cond.classLink_spec hown hclink e.platform hpl
  cases hnameA.symm.trans hfc0
  obtain ⟨hg₁, hwarm₁, hready₁⟩ := State.classEntry (e := e) X.warmed hcl
  generalize T.vm.noted m.cls index (.cls cA) = vm₁ at hg₁ hwarm₁ hready₁
  have hal : s.vm.Alike vm₁ := hwarm₁.alike
  obtain ⟨kA₁, hkA₁, heA⟩ := hal.2.2 _ _ hkA
  obtain ⟨kC₁, hkC₁, heC⟩ := hal.2.2 _ _ hkC
  have hkindA₁ : kA₁.kind = .array comp' (.array ty) := by rw [heA]; exact hkindA
  have hkindC₁ : kC₁.kind = .array cc2 ty := by rw [heC]; exact hkindC
  have X₁ := X.noted hwarm₁
  obtain ⟨hr1, hr2⟩ := X.roomAbove hcells hslots
  have XF := mu_stand X₁ cA comp' n.toNatClampNeg k.toNatClampNeg (defaultValue ty) n.toNatClampNeg
  obtain ⟨f1, f2, f3, f4⟩ := mu_facts (T.setVm vm₁) cA comp' n.toNatClampNeg k.toNatClampNeg (defaultValue ty) n.toNatClampNeg
  obtain ⟨t', a1, b1⟩ := kk cA comp' kA kC cc2 (mu_st (T.setVm vm₁) cA comp' n.toNatClampNeg k.toNatClampNeg (defaultValue ty) n.toNatClampNeg).heap hnameA hcomp hkA hkindA hkC hkindC f1 (fun q hq => mu_old (T.setVm vm₁) cA comp' _ _ _ hq _) f2 (fun j hj => mu_row (T.setVm vm₁) cA comp' _ _ _ _ j hj) (mu_st (T.setVm vm₁) cA comp' n.toNatClampNeg k.toNatClampNeg (defaultValue ty) n.toNatClampNeg) rfl (by
    have e1 : cells + (1 + n.toNatClampNeg) = cells + 1 + n.toNatClampNeg := by omega
    have e2 : slots + (n.toNatClampNeg + n.toNatClampNeg * k.toNatClampNeg) = slots + n.toNatClampNeg + n.toNatClampNeg * k.toNatClampNeg := by omega
    rw [e1, e2]; exact XF)
  refine ⟨t', ?_, b1⟩
  have hl1 : ¬ n.toNatClampNeg > e.platform.arrayLengthLimit := by rw [Launch.admits_arrayLengthLimit X.admits]; omega
  have hh1 : ¬ n.toNatClampNeg * componentBytes (.array ty) > e.platform.maxHeapBytes := by
    rw [Launch.admits_maxHeapBytes X.admits]; show ¬ n.toNatClampNeg * 4 > 536870912; omega
  have hl2 : ¬ k.toNatClampNeg > e.platform.arrayLengthLimit := by rw [Launch.admits_arrayLengthLimit X.admits]; omega
  have hkb : k.toNatClampNeg * componentBytes ty ≤ 1000 * 8 := Nat.mul_le_mul hb2 hcb
  have hh2 : ¬ k.toNatClampNeg * componentBytes ty > e.platform.maxHeapBytes := by rw [Launch.admits_maxHeapBytes X.admits]; omega
  jvm_step X.here [hexec, hdg]
  simp only [multianewarray.sem, wp_bind', W.resolveClassAt_links (State.method?_setTop (F0 m pc ls (.int k :: .int n :: rest)) X.here.top) hg₁]
  rw [W.popN, if_neg (by decide)]
  refine ⟨F0 m pc ls (.int k :: .int n :: rest), State.topJava?_setTop' (s := T.setVm vm₁) _ X.here.top, [.int n, .int k], rest, rfl, rfl, ?_⟩
  simp only [List.mapM_cons, List.mapM_nil, wp_bind', wp_pure']
  refine mu_make (k := kA₁) (kc := kC₁) (comp := comp') (cc := cc2) (t0 := .array ty) (ty := ty) hkA₁ hkindA₁ rfl hkC₁ hkindC₁ hn hk hl1 hh1 hl2 hh2 hdf hdd (by show T.heap.size + 1 + _ ≤ _; omega) (by show T.slotsUsed + _ + _ ≤ _; omega) (fun d' acts' => ?_)
  have eS : ((T.setTop (F0 m pc ls (.int k :: .int n :: rest))).setVm vm₁).setTop { F0 m pc ls (.int k :: .int n :: rest) with stack := rest } = (T.setVm vm₁).setTop { F0 m pc ls (.int k :: .int n :: rest) with stack := rest } := by
    show ((T.setVm vm₁).setTop _).setTop _ = _
    rw [State.setTop_setTop]
  rw [eS, mu_top]
  simp only [wp_bind', W.mark, W.pushRef, State.topJava?_setTop' _ XF.here.top, Option.some.injEq, exists_eq_left', State.setTop_setTop, State.heap_setTop]
  intro acts
  simp [jvm, XF.here.top]
  exact a1
end MUS
end
section
/-! ===== the simulation: rows of rows, copies of arrays, casts ===== -/
def mu_as (a0 n : Nat) : List Nat := a0 :: (List.range n).map fun j => a0 + 1 + j
def mu_ws (cA comp : ClassId) (a0 n k : Nat) : va_W := (a0, .inl (cA, n, .inr (.inr (.inr (.inr (fun j => if j < n then some (a0 + 1 + j) else none)))))) :: (List.range n).map fun j => (a0 + 1 + j, .inl (comp, k, .inl fun _ => 0))
def mu_h (h0 r1 n k : Nat) : AHp := (.inl (r1, n, .inr (.inr (.inr (.inr (fun j => if j < n then some (h0 + 1 + j) else none))))) : AC) :: am_rows (7 - r1) k n
theorem mu_as_0 (a0 n : Nat) : (mu_as a0 n)[0]? = some a0 := rfl
theorem mu_as_s {a0 n j : Nat} (hj : j < n) : (mu_as a0 n)[j + 1]? = some (a0 + 1 + j) := by
  show ((List.range n).map fun j => a0 + 1 + j)[j]? = _
  rw [List.getElem?_map, List.getElem?_range hj]; rfl
theorem mu_ws_s {cA comp : ClassId} {a0 n k j : Nat} (hj : j < n) : (mu_ws cA comp a0 n k)[j + 1]? = some (a0 + 1 + j, .inl (comp, k, .inl fun _ => 0)) := by
  show ((List.range n).map fun j => ((a0 + 1 + j, .inl (comp, k, .inl fun _ => 0)) : Nat × va_E))[j]? = _
  rw [List.getElem?_map, List.getElem?_range hj]; rfl
theorem mu_len (a0 n k h0 r1 : Nat) (cA comp : ClassId) : (mu_as a0 n).length = n + 1 ∧ (mu_ws cA comp a0 n k).length = n + 1 ∧ (mu_h h0 r1 n k).length = n + 1 := by
  refine ⟨?_, ?_, ?_⟩
  · simp [mu_as]
  · simp [mu_ws]
  · simp [mu_h, am_rows]
theorem mu_RW {X : Nat → Value → Prop} {G : Nat → ClassId} {as : List Nat} {h : AHp} {ws : va_W} (R : am_RW X G as h ws) {r1 n k a0 : Nat} (hr : r1 = 6 ∨ r1 = 7) (hl : h.length + 1 + n ≤ am_SB) : am_RW X G (as ++ mu_as a0 n) (h ++ mu_h h.length r1 n k) (ws ++ mu_ws (G r1) (G (7 - r1)) a0 n k) := by
  obtain ⟨l1, l2, l3⟩ := mu_len a0 n k h.length r1 (G r1) (G (7 - r1))
  have key : ∀ i, i < n + 1 → (as ++ mu_as a0 n)[h.length + i]? = (mu_as a0 n)[i]? ∧ (ws ++ mu_ws (G r1) (G (7 - r1)) a0 n k)[h.length + i]? = (mu_ws (G r1) (G (7 - r1)) a0 n k)[i]? := by
    intro i _
    refine ⟨?_, ?_⟩
    · rw [List.getElem?_append_right (by rw [R.1]; omega), R.1, Nat.add_sub_cancel_left]
    · rw [List.getElem?_append_right (by rw [R.2.1]; omega), R.2.1, Nat.add_sub_cancel_left]
  refine ⟨by rw [List.length_append, List.length_append, R.1, l1, l3], by rw [List.length_append, List.length_append, R.2.1, l2, l3], by rw [List.length_append, l3]; omega, fun i c hi => ?_⟩
  by_cases q : i < h.length
  · rw [List.getElem?_append_left q] at hi
    obtain ⟨b, f, h1, h2, h3⟩ := R.2.2.2 i c hi
    exact ⟨b, f, am_get_app h1, by rw [List.getElem?_append_left (by rw [R.2.1]; exact q)]; exact h2, am_RC_app h3⟩
  · obtain ⟨j, rfl⟩ : ∃ j, i = h.length + j := ⟨i - h.length, by omega⟩
    rw [List.getElem?_append_right (by omega), Nat.add_sub_cancel_left] at hi
    have hj : j < n + 1 := by rw [← l3]; exact (List.getElem?_eq_some_iff.mp hi).1
    obtain ⟨k1, k2⟩ := key j hj
    cases j with
    | zero =>
      cases hi
      refine ⟨a0, _, k1.trans (mu_as_0 a0 n), k2.trans rfl, rfl, rfl, by rcases hr with rfl | rfl <;> decide, fun j => ⟨fun z => ?_, fun i z => ?_⟩⟩
      · by_cases q2 : j < n
        · dsimp only at z; rw [if_pos q2] at z; cases z
        · exact if_neg q2
      · by_cases q2 : j < n
        · dsimp only at z; rw [if_pos q2] at z
          cases z
          refine ⟨by omega, a0 + 1 + j, ?_, if_pos q2⟩
          rw [show h.length + 1 + j = h.length + (j + 1) by omega, (key (j + 1) (by omega)).1]
          exact mu_as_s q2
        · dsimp only at z; rw [if_neg q2] at z; cases z
    | succ j =>
      have hj2 : j < n := by omega
      have e : c = .inl (7 - r1, k, .inl (fun _ => 0)) := by
        have h9 : (am_rows (7 - r1) k n)[j]? = some c := hi
        unfold am_rows at h9
        rw [List.getElem?_replicate, if_pos hj2] at h9
        cases h9
        rfl
      subst e
      exact ⟨a0 + 1 + j, _, k1.trans (mu_as_s hj2), k2.trans (mu_ws_s hj2), rfl, rfl, by omega, rfl⟩
theorem mu_mem {cA comp : ClassId} {a0 n k i : Nat} {q : Nat × va_E} (h : (mu_ws cA comp a0 n k)[i]? = some q) : (i = 0 ∧ q = (a0, .inl (cA, n, .inr (.inr (.inr (.inr (fun j => if j < n then some (a0 + 1 + j) else none))))))) ∨ ∃ j, j < n ∧ i = j + 1 ∧ q = (a0 + 1 + j, .inl (comp, k, .inl fun _ => 0)) := by
  cases i with
  | zero => cases h; exact Or.inl ⟨rfl, rfl⟩
  | succ j =>
    have hj : j + 1 < n + 1 := by rw [← (mu_len a0 n k 0 0 cA comp).2.1]; exact (List.getElem?_eq_some_iff.mp h).1
    rw [mu_ws_s (by omega)] at h
    cases h
    exact Or.inr ⟨j, by omega, rfl, rfl⟩
section AMK
variable {p : Program} {l : Launch} {e : Env} {R : Room} {s : State} {m : MethodId} {args : Array Value} {below : List Frame} {meth : Method} {c : Code} {Q : State → Prop} {k : AK} {X : Nat → Value → Prop} {nL : Nat} {as0 as : List Nat} {ws : va_W} {ls : ALs} {st : List Value} {h : AHp} {ls1 : Array Slot} {st1 : List Value} {H : Heap} {locs : List Loc} {cells slots pc : Nat} {S : ASt} {cc : ByteArray} {own : String}
theorem am_nn {x : Int32} (h : 0 ≤ x.toInt) : ¬ x < 0 := by
  rw [Int32.lt_iff_toInt_lt]
  have : (0 : Int32).toInt = 0 := rfl
  omega
theorem sim_newm (hx : p.tables.exec = Jvm.exec) (hb : c.code = cc) (hown : s.vm.findClass own = some m.cls) (hK : va_K k.2.1 am_cl (am_tys k.2.2.1) s) (hz : k.1 ≤ s.heap.size) (h0 : (Jvm.Cond.arrayClass .int).before args s = true) (h1 : (Jvm.Cond.arrayClass .boolean).before args s = true) (h6 : (Jvm.Cond.arrayOver (.array .boolean)).before args s = true) (h7 : (Jvm.Cond.arrayOver (.array .int)).before args s = true) {idx r1 : Nat} (hcl : (r1 = 6 → (Jvm.Cond.classLink own idx "[[Z").before args s = true) ∧ (r1 = 7 → (Jvm.Cond.classLink own idx "[[I").before args s = true)) (hdg : decode cc pc = .ok (.multianewarray idx 2, 4))
    (hrc : cells + S.2.2.2.2.1 ≤ R.cells) (hrs : slots + S.2.2.2.2.2 ≤ R.slots) (hs : am_newm pc r1 ls st h = some S) (Rl : am_Rel k X nL s as0 as ws ls st h ls1 st1 H locs) (go : am_Go p l e R s m args below meth c Q k X nL as0 S cells slots) : W p l e R s m args below meth c H locs cells slots Q (F0 m pc ls1 st1) := by
  unfold am_newm at hs
  split at hs
  · next kk n r =>
    split at hs
    · next hc =>
      obtain ⟨hlen, ⟨hn0, hn1⟩, ⟨hk0, hk1⟩, hr⟩ := hc
      cases hs
      obtain ⟨⟨t, ht⟩, hl, hst, hw, hP, hD, hS⟩ := Rl
      obtain ⟨r', rfl, hst'⟩ := am_RS_int hst
      obtain ⟨r2, rfl, hst2⟩ := am_RS_int hst'
      have hc0 : n.toNatClampNeg = n.toInt.toNat := rfl
      have hc1 : kk.toNatClampNeg = kk.toInt.toNat := rfl
      have G6 := (hK.2 6 _ (am_tys_at (G := k.2.2.1) (t := 6) (by decide))).2
      have G7 := (hK.2 7 _ (am_tys_at (G := k.2.2.1) (t := 7) (by decide))).2
      have G0 := (hK.2 0 _ (am_tys_at (G := k.2.2.1) (t := 0) (by decide))).2
      have G1 := (hK.2 1 _ (am_tys_at (G := k.2.2.1) (t := 1) (by decide))).2
      have fin : ∀ (cA comp : ClassId) (H1 : Heap) (dv : Value), dv = .int 0 → cA = k.2.2.1 r1 → comp = k.2.2.1 (7 - r1) → H1.size = H.size + 1 + n.toNatClampNeg → (∀ q : Nat, q < H.size → H1[q]? = H[q]?) → H1[H.size]? = some (arrV cA n.toNatClampNeg (mu_refs H.size n.toNatClampNeg)) → (∀ j, j < n.toNatClampNeg → H1[H.size + 1 + j]? = some (arrV comp kk.toNatClampNeg (fun _ => dv))) →
          W p l e R s m args below meth c H1 (locs ++ (List.range n.toNatClampNeg).map fun j => ⟨H.size, j⟩) (cells + (1 + n.toNatClampNeg)) (slots + (n.toNatClampNeg + n.toNatClampNeg * kk.toNatClampNeg)) Q (F0 m (pc + 4) ls1 (.ref H.size :: r2)) := by
        intro cA comp H1 dv hdv e1 e2 f1 f2 f3 f4
        subst hdv e1 e2
        have hkq : ∀ (i : Nat) (q : Nat × va_E), ws[i]? = some q → H1[q.1]? = H[q.1]? := fun i q hq => f2 q.1 ((hP i q hq).lt)
        refine go (as ++ mu_as H.size n.toNatClampNeg) (ws ++ mu_ws (k.2.2.1 r1) (k.2.2.1 (7 - r1)) H.size n.toNatClampNeg kk.toNatClampNeg) ls1 (.ref H.size :: r2) H1 _ ⟨⟨t ++ mu_as H.size n.toNatClampNeg, by rw [ht, List.append_assoc]⟩, am_RL_app hl, ⟨am_RV_mk (by omega) ?_, am_RS_app hst2⟩, mu_RW hw hr (by omega), (hP.kept hkq).app (fun i q hq => ?_), hD.app ⟨fun i j p q hi hj hpq => ?_, fun i q hq => ?_⟩ (fun i j p q hi hj hpq => ?_), Nat.le_trans hS.1 (by omega), fun x h1 h2 => (f2 x (Nat.lt_of_lt_of_le h1 hS.1)).trans (hS.2.1 x h1 h2), fun z hz1 => ?_⟩
        · rw [List.getElem?_append_right (by rw [hw.1]; exact Nat.le_refl _), hw.1, Nat.sub_self]; rfl
        · rcases mu_mem hq with ⟨rfl, rfl⟩ | ⟨j, hj, rfl, rfl⟩
          · show H1[H.size]? = some (vp_cell _ _)
            rw [vp_cell_q, f3]
            congr 2
            funext j
            unfold mu_refs
            by_cases q : j < n.toNatClampNeg
            · rw [if_pos q, if_pos q]; rfl
            · rw [if_neg q, if_neg q]; rfl
          · show H1[H.size + 1 + j]? = some (vp_cell _ _)
            rw [vp_cell_i]
            exact f4 j hj
        · rcases mu_mem hi with ⟨rfl, rfl⟩ | ⟨i, hi, rfl, rfl⟩ <;> rcases mu_mem hj with ⟨rfl, rfl⟩ | ⟨j, hj, rfl, rfl⟩
          · rfl
          · dsimp only at hpq; omega
          · dsimp only at hpq; omega
          · dsimp only at hpq; omega
        · have hH : k.1 ≤ H.size := Nat.le_trans hz hS.1
          rcases mu_mem hq with ⟨rfl, rfl⟩ | ⟨j, hj, rfl, rfl⟩
          · exact hH
          · show k.1 ≤ H.size + 1 + j; omega
        · have hlt := (hP i p hi).lt
          rcases mu_mem hj with ⟨rfl, rfl⟩ | ⟨j, hj, rfl, rfl⟩
          · dsimp only at hpq; omega
          · dsimp only at hpq; omega
        · rcases List.mem_append.mp hz1 with q | q
          · exact hS.2.2 z q
          · obtain ⟨j, -, rfl⟩ := List.mem_map.mp q
            exact Nat.le_trans hz hS.1
      rcases hr with rfl | rfl
      · exact mu_row2 (ty := .boolean) hx hb hown (hcl.1 rfl) h6 h1 hdg (am_nn hn0) (am_nn hk0) (by omega) (by omega) (by decide) rfl rfl hrc hrs (fun cA comp kA kC c2 H1 g1 g2 g3 g4 g5 g6 f1 f2 f3 f4 => fin cA comp H1 _ rfl (Option.some.inj (g1.symm.trans G6)) (Option.some.inj (g2.symm.trans G1)) f1 f2 f3 f4)
      · exact mu_row2 (ty := .int) hx hb hown (hcl.2 rfl) h7 h0 hdg (am_nn hn0) (am_nn hk0) (by omega) (by omega) (by decide) rfl rfl hrc hrs (fun cA comp kA kC c2 H1 g1 g2 g3 g4 g5 g6 f1 f2 f3 f4 => fin cA comp H1 _ rfl (Option.some.inj (g1.symm.trans G7)) (Option.some.inj (g2.symm.trans G0)) f1 f2 f3 f4)
    · cases hs
  · cases hs
theorem am_nmA {t : Nat} {ad : String} (hK : va_K k.2.1 am_cl (am_tys k.2.2.1) s) (ht : t < 3) (he : "[" ++ (am_el t).toString = ad) : s.vm.findClass ad = some (k.2.2.1 t) := by
  subst he
  have h := (hK.2 t _ (am_tys_at (G := k.2.2.1) (t := t) (by omega))).2
  match t, ht, h with
  | 0, _, h => exact h
  | 1, _, h => exact h
  | 2, _, h => exact h
theorem sim_clone {t : Nat} {ad : String} (ht : t = 0 ∧ ad = "[I" ∨ t = 2 ∧ ad = "[B") (hx : p.tables.exec = Jvm.exec) (hb : c.code = cc) (hml : c.maxLocals = nL) (hown : s.vm.findClass own = some m.cls) (hK : va_K k.2.1 am_cl (am_tys k.2.2.1) s) (hz : k.1 ≤ s.heap.size) (hXo : am_Xok X) {idx : Nat}
    (h1 : (Jvm.Cond.methodLink own idx ⟨ad, "clone", "()Ljava/lang/Object;"⟩).before args s = true) (h2 : (Jvm.Cond.sameMethod ad "java/lang/Object" "clone" "()Ljava/lang/Object;").before args s = true) (h3 : (Jvm.Cond.native ⟨"java/lang/Object", "clone", "()Ljava/lang/Object;"⟩).before args s = true) (h4 : (Jvm.Cond.instanceMethod ⟨"java/lang/Object", "clone", "()Ljava/lang/Object;"⟩).before args s = true)
    (h5 : (Jvm.Cond.selects ad ⟨ad, "clone", "()Ljava/lang/Object;"⟩ ⟨"java/lang/Object", "clone", "()Ljava/lang/Object;"⟩).before args s = true) (h6 : va_Nw (.castable ad "java/lang/Cloneable") s) (hdg : decode cc pc = .ok (.invokevirtual idx, 3)) (hf : 1 ≤ R.frames) (hlo : 8 + 14 ≤ R.locals)
    (hrc : cells + S.2.2.2.2.1 ≤ R.cells) (hrs : slots + S.2.2.2.2.2 ≤ R.slots) (hs : am_clone t pc ls st h = some S) (Rl : am_Rel k X nL s as0 as ws ls st h ls1 st1 H locs) (go : am_Go p l e R s m args below meth c Q k X nL as0 S cells slots) : W p l e R s m args below meth c H locs cells slots Q (F0 m pc ls1 st1) := by
  unfold am_clone at hs
  split at hs
  · next a r =>
    split at hs
    · next hc =>
      obtain ⟨ha, hlen, hsum⟩ := hc
      split at hs
      · next u n f hcell =>
        split at hs
        · next hu =>
          obtain ⟨rfl, hu⟩ := hu
          cases hs
          obtain ⟨⟨t0, ht0⟩, hl, hst, hw, hP, hD, hS⟩ := Rl
          obtain ⟨q, r', hq, rfl, hst'⟩ := am_RS_ref hst ha
          obtain ⟨e9, hg, hrc9⟩ := am_RW_get hw hcell hq
          rcases e9 with ⟨cA, mm, bb⟩ | ⟨cj, gs⟩
          · obtain ⟨rfl, rfl, ht5, hra⟩ := hrc9
            rcases bb with g | g | g | g | g <;> try exact hra.elim
            obtain rfl : f = g := hra
            have hnm : s.vm.findClass ad = some (k.2.2.1 u) := by
              rcases ht with ⟨rfl, rfl⟩ | ⟨rfl, rfl⟩
              · exact am_nmA hK (by decide) rfl
              · exact am_nmA hK (by decide) rfl
            have hfit : ∀ (i : Nat) (v : Value), (vp_cell (k.2.2.1 u) (n, .inl f)).slots[i]? = some v → fits (am_el u) v = true := by
              intro i v hv
              rw [vp_cell_i] at hv
              have hi : i < n := by
                have := (Array.getElem?_eq_some_iff.mp hv).1
                rwa [arrV_size] at this
              rw [arrV_read _ _ hi] at hv
              cases hv
              rcases hu with rfl | ⟨rfl, hu⟩
              · rfl
              · rw [← hu i hi]; exact pk_fb _
            refine va_clone (A := am_A k) (t0 := u) (ty := am_el u) (x := (n, .inl f)) hx hb (by rw [hml]; exact hl.1.symm) hown h1 h2 h3 h4 h5 h6 hK hP hD hS (fun q hq => Nat.le_trans hz hq) a hg (am_tys_at ht5) hnm hfit hf ?_ hrc hrs hdg (fun q H1 hK1 hP1 hD1 hS1 => ?_)
            · rw [am_RS_cat hXo hst']; omega
            · exact go (as ++ [q]) _ ls1 (.ref q :: r') H1 locs ⟨⟨t0 ++ [q], by rw [ht0, List.append_assoc]⟩, am_RL_app hl, ⟨am_RV_mk hlen (by rw [List.getElem?_append_right (by rw [hw.1]; exact Nat.le_refl _), hw.1, Nat.sub_self]; rfl), am_RS_app hst'⟩, am_RW_push hw hlen (am_RC_arr (b := .inl f) ht5 rfl), hP1, hD1, hS1⟩
          · exact hrc9.elim
        · cases hs
      · cases hs
    · cases hs
  · cases hs
theorem sim_cast (hx : p.tables.exec = Jvm.exec) (hb : c.code = cc) (hown : s.vm.findClass own = some m.cls) (hK : va_K k.2.1 am_cl (am_tys k.2.2.1) s) {idx r1 : Nat} (hcl : (r1 = 7 → (Jvm.Cond.classLink own idx "PebbleProofsLaw$Yard").before args s = true) ∧ (r1 = 100 → (Jvm.Cond.classLink own idx "[I").before args s = true) ∧ (r1 = 102 → (Jvm.Cond.classLink own idx "[B").before args s = true)) (hdg : decode cc pc = .ok (.checkcast idx, 3))
    (hs : am_cast pc r1 ls st h = some S) (Rl : am_Rel k X nL s as0 as ws ls st h ls1 st1 H locs) (go : am_Go p l e R s m args below meth c Q k X nL as0 S cells slots) : W p l e R s m args below meth c H locs cells slots Q (F0 m pc ls1 st1) := by
  unfold am_cast at hs
  split at hs
  · next a r =>
    split at hs
    · next ha =>
      obtain ⟨t, hl, hst, hw, hP, hD, hS⟩ := Rl
      obtain ⟨q, r', hq, rfl, hst'⟩ := am_RS_ref hst ha
      split at hs
      · next ci fs hcell =>
        split at hs
        · next hci =>
          obtain ⟨rfl, rfl⟩ := hci
          cases hs
          obtain ⟨e9, hg, hrc9⟩ := am_RW_get hw hcell hq
          rcases e9 with ⟨cA, mm, bb⟩ | ⟨cj, gs⟩
          · exact hrc9.elim
          · obtain ⟨rfl, -⟩ := hrc9
            exact va_castS (cC := k.2.1.1 7) hx hb hown (hcl.1 rfl) (hK.1 7 _ rfl).2 (va_recv hK hP rfl hg) hdg (go as ws ls1 _ H locs ⟨t, hl, ⟨am_RV_mk ha hq, hst'⟩, hw, hP, hD, hS⟩)
        · cases hs
      · next u n f hcell =>
        split at hs
        · next hu =>
          obtain ⟨rfl, hu⟩ := hu
          cases hs
          obtain ⟨e9, hg, hrc9⟩ := am_RW_get hw hcell hq
          rcases e9 with ⟨cA, mm, bb⟩ | ⟨cj, gs⟩
          · obtain ⟨rfl, rfl, ht5, hra⟩ := hrc9
            rcases hu with rfl | rfl
            · exact va_castA hx hb hown (hcl.2.1 rfl) hP a hg (am_nmA hK (by decide) rfl) hdg (go as ws ls1 _ H locs ⟨t, hl, ⟨am_RV_mk ha hq, hst'⟩, hw, hP, hD, hS⟩)
            · exact va_castA hx hb hown (hcl.2.2 rfl) hP a hg (am_nmA hK (by decide) rfl) hdg (go as ws ls1 _ H locs ⟨t, hl, ⟨am_RV_mk ha hq, hst'⟩, hw, hP, hD, hS⟩)
          · exact hrc9.elim
        · cases hs
      · cases hs
    · cases hs
  · cases hs
end AMK
end
section
/-! ===== the simulation: reads and writes of fields, arrays, texts, the script ===== -/
/-- where a row of bytes outside lies -/
def am_oad (k : AK) (a : Nat) : Nat := if am_isB a then k.2.2.2.2 ((a - (am_SB + 10)) / 2) else k.2.2.2.2 (100 + (a - (am_SB + 2)))
/-- the texts: objects with their bytes; the rows of bytes outside; the empty row of Objects -/
def am_Str (k : AK) (s : State) (H : Heap) : Prop := (∀ i, i < am_nt → va_O "java/lang/String" (k.2.2.2.1 i) (am_A k) s H ∧ va_OF "java/lang/String" "coder" "B" (.int 0) (k.2.2.2.1 i) (am_A k) s H ∧ va_OF "java/lang/String" "value" "[B" (.ref (k.2.2.2.2 i)) (k.2.2.2.1 i) (am_A k) s H) ∧ (∀ a n f, am_oa a = some (n, f) → va_T .byte (am_oad k a) n (fun j => .int (f j)) (am_A k) s H) ∧ va_T (.object "java/lang/Object") (k.2.2.2.2 100) 0 (fun _ => .null) (am_A k) s H
theorem am_nt_eq : am_nt = 27 := rfl
theorem am_X_txt {k : AK} {b a : Nat} {w : Value} (hT : am_isT a) (h : am_X k b a w) : w = .ref (k.2.2.2.1 ((a - (am_SB + 10)) / 2)) := by
  obtain ⟨h1, h2, -⟩ := hT
  unfold am_X at h
  rw [if_neg (by omega), if_neg (by omega), if_neg (by omega), if_pos h1] at h
  exact h
theorem am_oa_in {a n : Nat} {f : Nat → Int32} (h : am_oa a = some (n, f)) : am_isB a ∨ a = am_SB + 3 ∨ a = am_SB + 4 := by
  unfold am_oa at h
  split at h
  · next q => exact Or.inl q
  · split at h
    · next q => exact Or.inr (Or.inl q)
    · split at h
      · next q => exact Or.inr (Or.inr q)
      · cases h
theorem am_oa_not {a n : Nat} {f : Nat → Int32} (h : am_oa a = some (n, f)) : ¬ a < am_SB ∧ ¬ a = am_SB ∧ ¬ a = am_SB + 1 ∧ ¬ a = am_SB + 2 := by
  rcases am_oa_in h with ⟨h1, h2, h3⟩ | rfl | rfl <;> omega
theorem am_X_oa {k : AK} {b a n : Nat} {f : Nat → Int32} {w : Value} (ho : am_oa a = some (n, f)) (h : am_X k b a w) : w = .ref (am_oad k a) := by
  unfold am_X at h
  unfold am_oad
  rcases am_oa_in ho with ⟨h1, h2, h3⟩ | q
  · rw [if_neg (by omega), if_neg (by omega), if_neg (by omega), if_neg (by omega)] at h
    rw [if_pos ⟨h1, h2, h3⟩]
    exact h
  · rw [if_neg (by omega), if_neg (by omega), if_pos (by omega)] at h
    rw [if_neg (fun z => by obtain ⟨z1, z2, z3⟩ := z; omega)]
    exact h
theorem am_X_mktxt {k : AK} {b i : Nat} : am_X k b (am_SB + 10 + 2 * i) (.ref (k.2.2.2.1 i)) := by
  unfold am_X
  rw [if_neg (by omega), if_neg (by omega), if_neg (by omega), if_pos (by omega), show (am_SB + 10 + 2 * i - (am_SB + 10)) / 2 = i by omega]
theorem am_X_mkbyt {k : AK} {b a : Nat} (hT : am_isT a) : am_X k b (a + 1) (.ref (k.2.2.2.2 ((a - (am_SB + 10)) / 2))) := by
  obtain ⟨h1, h2, -⟩ := hT
  unfold am_X
  rw [if_neg (by omega), if_neg (by omega), if_neg (by omega), if_neg (by omega), show (a + 1 - (am_SB + 10)) / 2 = (a - (am_SB + 10)) / 2 by omega]
theorem am_X_stat {k : AK} {b i : Nat} (hi : i < 3) : am_X k b (am_SB + 2 + i) (.ref (k.2.2.2.2 (100 + i))) := by
  unfold am_X
  rw [if_neg (by omega), if_neg (by omega), if_pos (by omega), show 100 + (am_SB + 2 + i - (am_SB + 2)) = 100 + i by omega]
theorem am_nt_lt {a : Nat} (h : am_isT a) : (a - (am_SB + 10)) / 2 < am_nt := by
  obtain ⟨h1, h2, h3⟩ := h
  rw [am_nt_eq]
  omega
theorem am_tx_fit : ∀ i, i < 27 → ∀ j, j < (am_tx i).length → fits .byte (.int ((am_tx i).getD j 0)) = true := by decide +kernel
theorem am_d_fit : ∀ j, j < 100 → fits .byte (.int (am_d1 j)) = true ∧ fits .byte (.int (am_dt j)) = true := by decide +kernel
theorem am_oa_fit {a n : Nat} {f : Nat → Int32} (h : am_oa a = some (n, f)) : ∀ j, j < n → fits .byte (.int (f j)) = true := by
  intro j hj
  unfold am_oa at h
  split at h
  · next q =>
    cases h
    obtain ⟨h1, h2, h3⟩ := q
    exact am_tx_fit _ (by omega) j hj
  · split at h
    · cases h; exact (am_d_fit j hj).1
    · split at h
      · cases h; exact (am_d_fit j hj).2
      · cases h
theorem am_X_scr {k : AK} {b : Nat} {w : Value} (h : am_X k b am_SB w) : w = .ref b := by
  unfold am_X at h
  rw [if_pos rfl] at h
  exact h
section AMR
variable {p : Program} {l : Launch} {e : Env} {R : Room} {s : State} {m : MethodId} {args : Array Value} {below : List Frame} {meth : Method} {c : Code} {Q : State → Prop} {k : AK} {b nL : Nat} {as0 as : List Nat} {ws : va_W} {ls : ALs} {st : List Value} {h : AHp} {ls1 : Array Slot} {st1 : List Value} {H : Heap} {locs : List Loc} {cells slots pc : Nat} {S : ASt} {cc : ByteArray} {own : String}
/-- a cell of the world, on both sides -/
theorem am_obj_at {X : Nat → Value → Prop} {i : Nat} {ci : Nat} {fs : List Value} {a : Nat} (hw : am_RW X k.2.2.1 as h ws) (hc : h[i]? = some (.inr (ci, fs))) (ha : as[i]? = some a) : ∃ gs, ws[i]? = some (a, .inr (ci, gs)) ∧ am_RS X as fs gs := by
  obtain ⟨e, h1, h2⟩ := am_RW_get hw hc ha
  rcases e with ⟨cA, mm, bb⟩ | ⟨cj, gs⟩
  · exact h2.elim
  · obtain ⟨rfl, h3⟩ := h2
    exact ⟨gs, h1, h3⟩
theorem am_arr_at {X : Nat → Value → Prop} {i : Nat} {t n : Nat} {f : AVc} {a : Nat} (hw : am_RW X k.2.2.1 as h ws) (hc : h[i]? = some (.inl (t, n, f))) (ha : as[i]? = some a) : ∃ g, ws[i]? = some (a, .inl (k.2.2.1 t, n, g)) ∧ t < 8 ∧ am_RA as f g := by
  obtain ⟨e, h1, h2⟩ := am_RW_get hw hc ha
  rcases e with ⟨cA, mm, bb⟩ | ⟨cj, gs⟩
  · obtain ⟨rfl, rfl, h3, h4⟩ := h2
    exact ⟨bb, h1, h3, h4⟩
  · exact h2.elim
theorem sim_get (hx : p.tables.exec = Jvm.exec) (hb : c.code = cc) (hts : ∀ w ∈ am_T, w.before args s = true) (hown : s.vm.findClass own = some m.cls) (hK : va_K k.2.1 am_cl (am_tys k.2.2.1) s) (hstr : am_Str k s s.heap) {idx r1 r2 : Nat} (hdg : decode cc pc = .ok (.getfield idx, 3))
    (hf : ∀ C T N, am_cl[r1]? = some (C, T, N) → r2 < N ∧ ((∃ ref, Jvm.Cond.fieldLink own idx ref (T r2).2.1 (T r2).2.2.1 ∈ am_T ∧ (ref = (T r2).1 ∨ Jvm.Cond.sameField ref (T r2).1 (T r2).2.1 (T r2).2.2.1 ∈ am_T)) ∨ (∃ host, va_Nw (.fieldLinkNest own idx (T r2).1 (T r2).2.1 (T r2).2.2.1 host) s)))
    (hf8 : r1 = 8 → Jvm.Cond.fieldLink own idx "java/lang/String" (am_T8 r2).2.1 (am_T8 r2).2.2.1 ∈ am_T)
    (hs : am_get pc r1 r2 ls st h = some S) (Rl : am_Rel k (am_X k b) nL s as0 as ws ls st h ls1 st1 H locs) (go : am_Go p l e R s m args below meth c Q k (am_X k b) nL as0 S cells slots) : W p l e R s m args below meth c H locs cells slots Q (F0 m pc ls1 st1) := by
  unfold am_get at hs
  split at hs
  · next a r =>
    obtain ⟨t, hl, hst, hw, hP, hD, hS⟩ := Rl
    split at hs
    · next ha =>
      obtain ⟨q, r', hq, rfl, hst'⟩ := am_RS_ref hst ha
      split at hs
      · next ci fs hcell =>
        split at hs
        · next hci =>
          subst hci
          split at hs
          · next v hv =>
            cases hs
            obtain ⟨gs, hg, hrs⟩ := am_obj_at hw hcell hq
            obtain ⟨w, hw1, hw2⟩ := am_RS_get hrs hv
            obtain ⟨⟨C, T, N⟩, hcl⟩ := am_P_cl hP hg
            have nxt : W p l e R s m args below meth c H locs cells slots Q (F0 m (pc + 3) ls1 (w :: r')) := go as ws ls1 (w :: r') H locs ⟨t, hl, ⟨hw2, hst'⟩, hw, hP, hD, hS⟩
            obtain ⟨hk, ⟨ref, hlk, hrf⟩ | ⟨host, hlk⟩⟩ := hf C T N hcl
            · refine va_get (ref := ref) hx hb hts (am_ws_in hcl) hown hK hP a hg hcl r2 hk (hts _ hlk) (fun x hx => ?_) hw1 hdg nxt
              rcases hrf with rfl | hrf
              · exact hx
              · exact u_same (hts _ hrf) x hx
            · exact va_getN (host := host) (ref := (T r2).1) hx hb hts (am_ws_in hcl) hown hK hP a hg hcl r2 hk (va_Nw.use rfl hlk) (fun x hx => hx) hw1 hdg nxt
          · cases hs
        · cases hs
      · cases hs
    · next ha =>
      obtain ⟨w, r', rfl, hw0, hst'⟩ := am_RS_cons hst
      have hX := am_RV_ext hw0 ha
      split at hs
      · next hq =>
        obtain ⟨hT, rfl⟩ := hq
        have hw1 := am_X_txt hT hX
        subst hw1
        obtain ⟨-, h2, h3⟩ := hstr.1 ((a - (am_SB + 10)) / 2) (am_nt_lt hT)
        split at hs
        · cases hs
          exact vk_getf hx hb h3 hS hown (hts _ (hf8 rfl)) (fun x hx => hx) hdg (go as ws ls1 _ H locs ⟨t, hl, ⟨am_RV_mkx (by have := hT.2.1; omega) (am_X_mkbyt hT), hst'⟩, hw, hP, hD, hS⟩)
        · cases hs
          exact vk_getf hx hb h2 hS hown (hts _ (hf8 rfl)) (fun x hx => hx) hdg (go as ws ls1 _ H locs ⟨t, hl, ⟨rfl, hst'⟩, hw, hP, hD, hS⟩)
        · cases hs
      · cases hs
  · cases hs
theorem sim_put (hx : p.tables.exec = Jvm.exec) (hb : c.code = cc) (hts : ∀ w ∈ am_T, w.before args s = true) (hown : s.vm.findClass own = some m.cls) (hK : va_K k.2.1 am_cl (am_tys k.2.2.1) s) {idx r1 r2 : Nat} (hdg : decode cc pc = .ok (.putfield idx, 3))
    (hf : ∀ C T N, am_cl[r1]? = some (C, T, N) → r2 < N ∧ (∃ ref, Jvm.Cond.fieldLink own idx ref (T r2).2.1 (T r2).2.2.1 ∈ am_T ∧ (ref = (T r2).1 ∨ Jvm.Cond.sameField ref (T r2).1 (T r2).2.1 (T r2).2.2.1 ∈ am_T)) ∧ ((T r2).2.2.2 = false ∨ ((T r2).2.2.2 = true ∧ meth.name = "<init>" ∧ (T r2).1 = own)))
    (hs : am_put pc r1 r2 ls st h = some S) (Rl : am_Rel k (am_X k b) nL s as0 as ws ls st h ls1 st1 H locs) (go : am_Go p l e R s m args below meth c Q k (am_X k b) nL as0 S cells slots) : W p l e R s m args below meth c H locs cells slots Q (F0 m pc ls1 st1) := by
  unfold am_put at hs
  split at hs
  · next v a r =>
    obtain ⟨t, hl, hst, hw, hP, hD, hS⟩ := Rl
    split at hs
    · next ha =>
      obtain ⟨u, r0, rfl, hu, hst0⟩ := am_RS_cons hst
      obtain ⟨q, r', hq, rfl, hst'⟩ := am_RS_ref hst0 ha
      split at hs
      · next ci fs hcell =>
        split at hs
        · next hci =>
          obtain ⟨rfl, hlen, hfit, hnar, hne⟩ := hci
          cases hs
          obtain ⟨gs, hg, hrs⟩ := am_obj_at hw hcell hq
          obtain ⟨⟨C, T, N⟩, hcl⟩ := am_P_cl hP hg
          obtain ⟨hk, ⟨ref, hlk, hrf⟩, hfin⟩ := hf C T N hcl
          have hsm : ∀ x, s.fieldFound? (T r2).1 (T r2).2.1 (T r2).2.2.1 = some x → s.fieldFound? ref (T r2).2.1 (T r2).2.2.1 = some x := by
            intro x hx
            rcases hrf with rfl | hrf
            · exact hx
            · exact u_same (hts _ hrf) x hx
          obtain ⟨hfit', hnar'⟩ := am_fits (am_X_ref k b) hu hne hfit hnar
          have hgl : r2 < gs.length := by rw [am_RS_len hrs]; exact hlen
          have nxt : ∀ (H1 : Heap) (locs1 : List Loc), va_P k.2.1 am_cl (ws.set a (q, .inr (ci, gs.set r2 u))) H1 → va_D (am_A k) (ws.set a (q, .inr (ci, gs.set r2 u))) → va_S (am_A k) s.heap H1 locs1 → W p l e R s m args below meth c H1 locs1 cells slots Q (F0 m (pc + 3) ls1 r') :=
            fun H1 locs1 hP1 hD1 hS1 => go as (ws.set a (q, .inr (ci, gs.set r2 u))) ls1 r' H1 locs1 ⟨t, hl, hst', am_RW_set hw hq (am_RC_obj (am_RS_set r2 hrs hu)), hP1, hD1, hS1⟩
          rcases hfin with hfin | ⟨hfin, hnm, hdc⟩
          · exact va_put (ref := ref) hx hb hts (am_ws_in hcl) (am_ft ci) (am_ty_ok hcl) (am_nm_ok hcl) hown hK hP hD hS a hg hcl r2 hk (hts _ hlk) hsm hfin (am_ty_ok hcl r2 hk) hnar' hfit' hgl hdg nxt
          · exact va_putF (ref := ref) hx hb hts (am_ws_in hcl) (am_ft ci) (am_ty_ok hcl) (am_nm_ok hcl) hown hK hP hD hS a hg hcl r2 hk (hts _ hlk) hsm hfin hnm hdc (am_ty_ok hcl r2 hk) hnar' hfit' hgl hdg nxt
        · cases hs
      · cases hs
    · cases hs
  · cases hs
theorem sim_static (hx : p.tables.exec = Jvm.exec) (hb : c.code = cc) (hts : ∀ w ∈ am_T, w.before args s = true) (hown : s.vm.findClass own = some m.cls) (hz1 : va_Z "java/lang/String" "COMPACT_STRINGS" "Z" (.int 1) (am_A k) s s.heap) (hz2 : va_Zq "jdk/internal/util/Preconditions" "SIOOBE_FORMATTER" "Ljava/util/function/BiFunction;" (am_A k) s s.heap)
    (hz3 : va_Z "java/util/ArrayList" "DEFAULTCAPACITY_EMPTY_ELEMENTDATA" "[Ljava/lang/Object;" (.ref (k.2.2.2.2 100)) (am_A k) s s.heap) (hz4 : va_Z "java/lang/Integer" "DigitOnes" "[B" (.ref (k.2.2.2.2 101)) (am_A k) s s.heap) (hz5 : va_Z "java/lang/Integer" "DigitTens" "[B" (.ref (k.2.2.2.2 102)) (am_A k) s s.heap) {idx r1 : Nat} (hdg : decode cc pc = .ok (.getstatic idx, 3))
    (h0 : r1 = 0 → Jvm.Cond.fieldLink own idx "java/lang/String" "COMPACT_STRINGS" "Z" ∈ am_T) (h1 : r1 = 1 → Jvm.Cond.fieldLink own idx "jdk/internal/util/Preconditions" "SIOOBE_FORMATTER" "Ljava/util/function/BiFunction;" ∈ am_T) (h2 : r1 = 2 → Jvm.Cond.fieldLink own idx "java/util/ArrayList" "DEFAULTCAPACITY_EMPTY_ELEMENTDATA" "[Ljava/lang/Object;" ∈ am_T) (h3 : r1 = 3 → Jvm.Cond.fieldLink own idx "java/lang/Integer" "DigitOnes" "[B" ∈ am_T) (h4 : r1 = 4 → Jvm.Cond.fieldLink own idx "java/lang/Integer" "DigitTens" "[B" ∈ am_T)
    (hs : am_static pc r1 ls st h = some S) (Rl : am_Rel k (am_X k b) nL s as0 as ws ls st h ls1 st1 H locs) (go : am_Go p l e R s m args below meth c Q k (am_X k b) nL as0 S cells slots) : W p l e R s m args below meth c H locs cells slots Q (F0 m pc ls1 st1) := by
  unfold am_static at hs
  obtain ⟨t, hl, hst, hw, hP, hD, hS⟩ := Rl
  split at hs
  · cases hs
    exact va_gets hx hb hz1 hS hown (hts _ (h0 rfl)) (fun x hx => hx) hdg (go as ws ls1 _ H locs ⟨t, hl, ⟨rfl, hst⟩, hw, hP, hD, hS⟩)
  · cases hs
    have hxx : ∀ w : Value, (w = .null ∨ ∃ a, w = .ref a) → am_RV (am_X k b) as (.ref (am_SB + 1)) w := fun w hw => am_RV_mkx (by omega) (by unfold am_X; rw [if_neg (by omega), if_pos rfl]; exact hw)
    rcases hz2 with hz | ⟨a, hz⟩
    · exact va_gets hx hb hz hS hown (hts _ (h1 rfl)) (fun x hx => hx) hdg (go as ws ls1 _ H locs ⟨t, hl, ⟨hxx _ (Or.inl rfl), hst⟩, hw, hP, hD, hS⟩)
    · exact va_gets hx hb hz hS hown (hts _ (h1 rfl)) (fun x hx => hx) hdg (go as ws ls1 _ H locs ⟨t, hl, ⟨hxx _ (Or.inr ⟨a, rfl⟩), hst⟩, hw, hP, hD, hS⟩)
  · cases hs
    exact va_gets hx hb hz3 hS hown (hts _ (h2 rfl)) (fun x hx => hx) hdg (go as ws ls1 _ H locs ⟨t, hl, ⟨am_RV_mkx (by omega) (am_X_stat (i := 0) (by decide)), hst⟩, hw, hP, hD, hS⟩)
  · cases hs
    exact va_gets hx hb hz4 hS hown (hts _ (h3 rfl)) (fun x hx => hx) hdg (go as ws ls1 _ H locs ⟨t, hl, ⟨am_RV_mkx (by omega) (am_X_stat (i := 1) (by decide)), hst⟩, hw, hP, hD, hS⟩)
  · cases hs
    exact va_gets hx hb hz5 hS hown (hts _ (h4 rfl)) (fun x hx => hx) hdg (go as ws ls1 _ H locs ⟨t, hl, ⟨am_RV_mkx (by omega) (am_X_stat (i := 2) (by decide)), hst⟩, hw, hP, hD, hS⟩)
  · cases hs
theorem sim_ldc (hx : p.tables.exec = Jvm.exec) (hb : c.code = cc) (hts : ∀ w ∈ am_T, w.before args s = true) (hown : s.vm.findClass own = some m.cls) (hvk : ∀ q ∈ am_sr, vk_R q.1 q.2.1 (am_txs q.2.2) (k.2.2.2.1 q.2.2) s) {idx r1 r2 : Nat} (hdg : decode cc pc = .ok (.ldc idx, 2))
    (h0 : r1 = 0 → Jvm.Cond.constant own idx (Int32.ofNat r2) ∈ am_T) (h1 : r1 = 1 → (own, idx, r2) ∈ am_sr)
    (hs : am_ldc 2 pc r1 r2 ls st h = some S) (Rl : am_Rel k (am_X k b) nL s as0 as ws ls st h ls1 st1 H locs) (go : am_Go p l e R s m args below meth c Q k (am_X k b) nL as0 S cells slots) : W p l e R s m args below meth c H locs cells slots Q (F0 m pc ls1 st1) := by
  unfold am_ldc at hs
  obtain ⟨t, hl, hst, hw, hP, hD, hS⟩ := Rl
  split at hs
  · cases hs
    exact lv_ldc hx hb hown (hts _ (h0 rfl)) hdg (go as ws ls1 _ H locs ⟨t, hl, ⟨rfl, hst⟩, hw, hP, hD, hS⟩)
  · cases hs
    exact va_ldcS hx hb hown (hvk _ (h1 rfl)) hdg (go as ws ls1 _ H locs ⟨t, hl, ⟨am_RV_mkx (by omega) am_X_mktxt, hst⟩, hw, hP, hD, hS⟩)
  · cases hs
theorem lv_ldcwS {tx : String} {index q : Nat} {ls : Array Slot} {rest : List Value} (hexec : p.tables.exec = Jvm.exec) (hb : c.code = cc) (hown : s.vm.findClass own = some m.cls) (hZ : vk_R own index tx q s) (hdg : decode cc pc = .ok (.ldc_w index, 3))
    (kk : W p l e R s m args below meth c H locs cells slots Q (F0 m (pc + 3) ls (.ref q :: rest))) : W p l e R s m args below meth c H locs cells slots Q (F0 m pc ls rest) := by
  intro T hT X
  obtain ⟨t, a1, b1⟩ := kk T hT X
  exact ⟨t, X.ldcStringW hexec hown (text := tx) (a := q) hZ.1 hZ.2 (g := F0 m pc ls rest) rfl (by rw [hb]; exact hdg) t a1, b1⟩
theorem sim_ldcw (hx : p.tables.exec = Jvm.exec) (hb : c.code = cc) (hts : ∀ w ∈ am_T, w.before args s = true) (hown : s.vm.findClass own = some m.cls) (hvk : ∀ q ∈ am_sr, vk_R q.1 q.2.1 (am_txs q.2.2) (k.2.2.2.1 q.2.2) s) {idx r1 r2 : Nat} (hdg : decode cc pc = .ok (.ldc_w idx, 3))
    (h0 : r1 = 0 → Jvm.Cond.constant own idx (Int32.ofNat r2) ∈ am_T) (h1 : r1 = 1 → (own, idx, r2) ∈ am_sr)
    (hs : am_ldc 3 pc r1 r2 ls st h = some S) (Rl : am_Rel k (am_X k b) nL s as0 as ws ls st h ls1 st1 H locs) (go : am_Go p l e R s m args below meth c Q k (am_X k b) nL as0 S cells slots) : W p l e R s m args below meth c H locs cells slots Q (F0 m pc ls1 st1) := by
  unfold am_ldc at hs
  obtain ⟨t, hl, hst, hw, hP, hD, hS⟩ := Rl
  split at hs
  · cases hs
    exact lv_ldcw hx hb hown (hts _ (h0 rfl)) hdg (go as ws ls1 _ H locs ⟨t, hl, ⟨rfl, hst⟩, hw, hP, hD, hS⟩)
  · cases hs
    exact lv_ldcwS hx hb hown (hvk _ (h1 rfl)) hdg (go as ws ls1 _ H locs ⟨t, hl, ⟨am_RV_mkx (by omega) am_X_mktxt, hst⟩, hw, hP, hD, hS⟩)
  · cases hs
theorem sim_iald (hx : p.tables.exec = Jvm.exec) (hb : c.code = cc) (hK : va_K k.2.1 am_cl (am_tys k.2.2.1) s) {scr : ASc} (hscr : ∀ n f, scr = some (n, f) → va_X b n f s s.heap ∧ b < s.heap.size ∧ ¬ am_A k b) (hdg : decode cc pc = .ok (.iaload, 1))
    (hs : am_iald scr pc ls st h = some S) (Rl : am_Rel k (am_X k b) nL s as0 as ws ls st h ls1 st1 H locs) (go : am_Go p l e R s m args below meth c Q k (am_X k b) nL as0 S cells slots) : W p l e R s m args below meth c H locs cells slots Q (F0 m pc ls1 st1) := by
  unfold am_iald at hs
  split at hs
  · next i a r =>
    obtain ⟨t, hl, hst, hw, hP, hD, hS⟩ := Rl
    obtain ⟨r0, rfl, hst0⟩ := am_RS_int hst
    split at hs
    · next ha =>
      obtain ⟨q, r', hq, rfl, hst'⟩ := am_RS_ref hst0 ha
      split at hs
      · next n f hcell =>
        split at hs
        · next hi =>
          cases hs
          obtain ⟨g, hg, ht5, hra⟩ := am_arr_at hw hcell hq
          rcases g with g | g | g | g | g <;> try exact hra.elim
          have hfg : f = g := hra
          subst hfg
          exact va_iald hx hb hK hP a 0 hg rfl (am_in hi.1 hi.2) hdg (go as ws ls1 _ H locs ⟨t, hl, ⟨rfl, hst'⟩, hw, hP, hD, hS⟩)
        · cases hs
      · cases hs
    · next ha =>
      split at hs
      · next hab =>
        subst hab
        obtain ⟨w, r', rfl, hw0, hst'⟩ := am_RS_cons hst0
        have hw1 := am_X_scr (am_RV_ext hw0 ha)
        subst hw1
        split at hs
        · next n f =>
          split at hs
          · next hi =>
            cases hs
            obtain ⟨h1, h2, h3⟩ := hscr n f rfl
            exact va_sld hx hb h1 h2 h3 hS (am_in hi.1 hi.2) hdg (go as ws ls1 _ H locs ⟨t, hl, ⟨rfl, hst'⟩, hw, hP, hD, hS⟩)
          · cases hs
        · cases hs
      · cases hs
  · cases hs
theorem sim_bald (hx : p.tables.exec = Jvm.exec) (hb : c.code = cc) (hK : va_K k.2.1 am_cl (am_tys k.2.2.1) s) (hstr : am_Str k s s.heap) (hdg : decode cc pc = .ok (.baload, 1))
    (hs : am_bald pc ls st h = some S) (Rl : am_Rel k (am_X k b) nL s as0 as ws ls st h ls1 st1 H locs) (go : am_Go p l e R s m args below meth c Q k (am_X k b) nL as0 S cells slots) : W p l e R s m args below meth c H locs cells slots Q (F0 m pc ls1 st1) := by
  unfold am_bald at hs
  split at hs
  · next i a r =>
    obtain ⟨t, hl, hst, hw, hP, hD, hS⟩ := Rl
    obtain ⟨r0, rfl, hst0⟩ := am_RS_int hst
    split at hs
    · next ha =>
      obtain ⟨q, r', hq, rfl, hst'⟩ := am_RS_ref hst0 ha
      split at hs
      · next u n f hcell =>
        split at hs
        · next hi =>
          cases hs
          obtain ⟨g, hg, ht5, hra⟩ := am_arr_at hw hcell hq
          rcases g with g | g | g | g | g <;> try exact hra.elim
          have hfg : f = g := hra
          subst hfg
          rcases hi.1 with rfl | rfl
          · exact va_zald hx hb hK hP a 1 hg rfl (am_in hi.2.1 hi.2.2) hdg (go as ws ls1 _ H locs ⟨t, hl, ⟨rfl, hst'⟩, hw, hP, hD, hS⟩)
          · exact va_bald hx hb hK hP a 2 hg rfl (am_in hi.2.1 hi.2.2) hdg (go as ws ls1 _ H locs ⟨t, hl, ⟨rfl, hst'⟩, hw, hP, hD, hS⟩)
        · cases hs
      · cases hs
    · next ha =>
      split at hs
      · next n f ho =>
        obtain ⟨w, r', rfl, hw0, hst'⟩ := am_RS_cons hst0
        have hw1 := am_X_oa ho (am_RV_ext hw0 ha)
        subst hw1
        split at hs
        · next hi =>
          cases hs
          exact va_tb hx hb (hstr.2.1 a n f ho) hS (am_in hi.1 hi.2) rfl hdg (go as ws ls1 _ H locs ⟨t, hl, ⟨rfl, hst'⟩, hw, hP, hD, hS⟩)
        · cases hs
      · cases hs
  · cases hs
theorem am_aaldR (hx : p.tables.exec = Jvm.exec) (hb : c.code = cc) (hK : va_K k.2.1 am_cl (am_tys k.2.2.1) s) (hP : va_P k.2.1 am_cl ws H) (q0 ty : Nat) {a n : Nat} {f : Nat → Option Nat} {rest : List Value} (ha : ws[q0]? = some (a, .inl (k.2.2.1 ty, n, .inr (.inr (.inr (.inr f)))))) (h3 : 3 ≤ ty) (h8 : ty < 8) {i : Int32} (hin : vp_in i n) (hdg : decode cc pc = .ok (.aaload, 1))
    (kk : W p l e R s m args below meth c H locs cells slots Q (F0 m (pc + 1) ls1 (va_rf (f i.toNatClampNeg) :: rest))) : W p l e R s m args below meth c H locs cells slots Q (F0 m pc ls1 (.int i :: .ref a :: rest)) := by
  have hlt : i.toNatClampNeg < n := Nat.not_le.mp fun q => hin (Or.inr q)
  have hA := (hK.2 ty _ (am_tys_at (G := k.2.2.1) (t := ty) h8)).1 n (fun j => va_rf (f j))
  have h1 : ¬ (i < 0 ∨ (arrV (k.2.2.1 ty) n (fun j => va_rf (f j))).slots.size ≤ i.toNatClampNeg) := by rw [arrV_size]; exact hin
  have h2 : (arrV (k.2.2.1 ty) n (fun j => va_rf (f j))).slots[i.toNatClampNeg]? = some (va_rf (f i.toNatClampNeg)) := by rw [arrV_read _ _ hlt]
  have e5 : ty = 3 ∨ ty = 4 ∨ ty = 5 ∨ ty = 6 ∨ ty = 7 := by omega
  have hPa := hP q0 _ ha
  clear ha hlt hin hP
  rcases e5 with rfl | rfl | rfl | rfl | rfl
  · exact W.aald (v := va_rf (f i.toNatClampNeg)) (ty := .object "PebbleProofs$Board") hx hb hPa hA rfl (fun q => by cases q) h1 h2 rfl rfl hdg kk
  · exact W.aald (v := va_rf (f i.toNatClampNeg)) (ty := .object "PebbleProofs$FailingPiles") hx hb hPa hA rfl (fun q => by cases q) h1 h2 rfl rfl hdg kk
  · exact W.aald (v := va_rf (f i.toNatClampNeg)) (ty := .object "java/lang/Object") hx hb hPa hA rfl (fun q => by cases q) h1 h2 rfl rfl hdg kk
  · exact W.aald (v := va_rf (f i.toNatClampNeg)) (ty := .array .boolean) hx hb hPa hA rfl (fun q => by cases q) h1 h2 rfl rfl hdg kk
  · exact W.aald (v := va_rf (f i.toNatClampNeg)) (ty := .array .int) hx hb hPa hA rfl (fun q => by cases q) h1 h2 rfl rfl hdg kk
theorem sim_aald (hx : p.tables.exec = Jvm.exec) (hb : c.code = cc) (hK : va_K k.2.1 am_cl (am_tys k.2.2.1) s) (hdg : decode cc pc = .ok (.aaload, 1))
    (hs : am_aald pc ls st h = some S) (Rl : am_Rel k (am_X k b) nL s as0 as ws ls st h ls1 st1 H locs) (go : am_Go p l e R s m args below meth c Q k (am_X k b) nL as0 S cells slots) : W p l e R s m args below meth c H locs cells slots Q (F0 m pc ls1 st1) := by
  unfold am_aald at hs
  split at hs
  · next i a r =>
    obtain ⟨t, hl, hst, hw, hP, hD, hS⟩ := Rl
    obtain ⟨r0, rfl, hst0⟩ := am_RS_int hst
    split at hs
    · next ha =>
      obtain ⟨q, r', hq, rfl, hst'⟩ := am_RS_ref hst0 ha
      split at hs
      · next ty n f hcell =>
        split at hs
        · next hi =>
          cases hs
          obtain ⟨g, hg, ht5, hra⟩ := am_arr_at hw hcell hq
          rcases g with g | g | g | g | g <;> try exact hra.elim
          have hv : am_RV (am_X k b) as (va_rf (f i.toNatClampNeg)) (va_rf (g i.toNatClampNeg)) := by
            obtain ⟨h1, h2⟩ := hra i.toNatClampNeg
            cases hf : f i.toNatClampNeg with
            | none => rw [h1 hf]; rfl
            | some j =>
              obtain ⟨h3, q', h4, h5⟩ := h2 j hf
              rw [h5]
              exact am_RV_mk h3 h4
          have hlt := hi.1
          refine am_aaldR hx hb hK hP a ty hg hlt.1 hlt.2 (am_in hi.2.1 hi.2.2) hdg (go as ws ls1 _ H locs ⟨t, hl, ⟨hv, hst'⟩, hw, hP, hD, hS⟩)
        · cases hs
      · cases hs
    · cases hs
  · cases hs
theorem sim_iast (hx : p.tables.exec = Jvm.exec) (hb : c.code = cc) (hK : va_K k.2.1 am_cl (am_tys k.2.2.1) s) (hdg : decode cc pc = .ok (.iastore, 1))
    (hs : am_iast pc ls st h = some S) (Rl : am_Rel k (am_X k b) nL s as0 as ws ls st h ls1 st1 H locs) (go : am_Go p l e R s m args below meth c Q k (am_X k b) nL as0 S cells slots) : W p l e R s m args below meth c H locs cells slots Q (F0 m pc ls1 st1) := by
  unfold am_iast at hs
  split at hs
  · next x i a r =>
    obtain ⟨t, hl, hst, hw, hP, hD, hS⟩ := Rl
    obtain ⟨r00, rfl, hst00⟩ := am_RS_int hst
    obtain ⟨r0, rfl, hst0⟩ := am_RS_int hst00
    split at hs
    · next ha =>
      obtain ⟨q, r', hq, rfl, hst'⟩ := am_RS_ref hst0 ha
      split at hs
      · next n f hcell =>
        split at hs
        · next hi =>
          cases hs
          obtain ⟨g, hg, ht5, hra⟩ := am_arr_at hw hcell hq
          rcases g with g | g | g | g | g <;> try exact hra.elim
          have hfg : f = g := hra
          subst hfg
          exact va_iast hx hb hK hP hD hS a 0 hg rfl (am_in hi.1 hi.2) hdg (fun H1 locs1 hP1 hD1 hS1 => go as _ ls1 r' H1 locs1 ⟨t, hl, hst', am_RW_set hw hq (am_RC_arr (b := .inl (upd f i.toNatClampNeg x)) (by decide) rfl), hP1, hD1, hS1⟩)
        · cases hs
      · cases hs
    · cases hs
  · cases hs
theorem sim_bast (hx : p.tables.exec = Jvm.exec) (hb : c.code = cc) (hK : va_K k.2.1 am_cl (am_tys k.2.2.1) s) (hdg : decode cc pc = .ok (.bastore, 1))
    (hs : am_bast pc ls st h = some S) (Rl : am_Rel k (am_X k b) nL s as0 as ws ls st h ls1 st1 H locs) (go : am_Go p l e R s m args below meth c Q k (am_X k b) nL as0 S cells slots) : W p l e R s m args below meth c H locs cells slots Q (F0 m pc ls1 st1) := by
  unfold am_bast at hs
  split at hs
  · next x i a r =>
    obtain ⟨t, hl, hst, hw, hP, hD, hS⟩ := Rl
    obtain ⟨r00, rfl, hst00⟩ := am_RS_int hst
    obtain ⟨r0, rfl, hst0⟩ := am_RS_int hst00
    split at hs
    · next ha =>
      obtain ⟨q, r', hq, rfl, hst'⟩ := am_RS_ref hst0 ha
      split at hs
      · next u n f hcell =>
        split at hs
        · next hi =>
          cases hs
          obtain ⟨g, hg, ht5, hra⟩ := am_arr_at hw hcell hq
          rcases g with g | g | g | g | g <;> try exact hra.elim
          have hfg : f = g := hra
          subst hfg
          rcases hi.2 with ⟨rfl, hi2⟩ | ⟨rfl, hi2⟩
          · have hxx : vp_nar .boolean x = x := by rcases hi2 with rfl | rfl <;> decide
            refine va_zast hx hb hK hP hD hS a 1 hg rfl (am_in hi.1.1 hi.1.2) hdg (fun H1 locs1 hP1 hD1 hS1 => ?_)
            rw [hxx] at hP1 hD1
            exact go as _ ls1 r' H1 locs1 ⟨t, hl, hst', am_RW_set hw hq (am_RC_arr (b := .inl (upd f i.toNatClampNeg x)) (by decide) rfl), hP1, hD1, hS1⟩
          · have hxx : vp_nar .byte x = x := by rw [vp_nar_byte]; exact hi2
            refine va_bast hx hb hK hP hD hS a 2 hg rfl (am_in hi.1.1 hi.1.2) hdg (fun H1 locs1 hP1 hD1 hS1 => ?_)
            rw [hxx] at hP1 hD1
            exact go as _ ls1 r' H1 locs1 ⟨t, hl, hst', am_RW_set hw hq (am_RC_arr (b := .inl (upd f i.toNatClampNeg x)) (by decide) rfl), hP1, hD1, hS1⟩
        · cases hs
      · cases hs
    · cases hs
  · cases hs
/-- the words that a thing of the world is an Object -/
def am_isO (s : State) : Prop := (∀ (ci : Nat) (q : vw_C), am_cl[ci]? = some q → va_Nw (.castable q.1 "java/lang/Object") s) ∧ ∀ t, t < 8 → va_Nw (.castable ("[" ++ (am_el t).toString) "java/lang/Object") s
theorem am_nmT {t : Nat} (hK : va_K k.2.1 am_cl (am_tys k.2.2.1) s) (ht : t < 8) : s.vm.findClass ("[" ++ (am_el t).toString) = some (k.2.2.1 t) := by
  have h := (hK.2 t _ (am_tys_at (G := k.2.2.1) (t := t) ht)).2
  match t, ht, h with
  | 0, _, h => exact h
  | 1, _, h => exact h
  | 2, _, h => exact h
  | 3, _, h => obtain ⟨_, _, _, _, _, q⟩ := h; exact q
  | 4, _, h => obtain ⟨_, _, _, _, _, q⟩ := h; exact q
  | 5, _, h => obtain ⟨_, _, _, _, _, q⟩ := h; exact q
  | 6, _, h => exact h
  | 7, _, h => exact h
theorem am_any {X : Nat → Value → Prop} {i a : Nat} {cl : AC} (hK : va_K k.2.1 am_cl (am_tys k.2.2.1) s) (hO : am_isO s) (hP : va_P k.2.1 am_cl ws H) (hw : am_RW X k.2.2.1 as h ws) (hc : h[i]? = some cl) (ha : as[i]? = some a) : va_Any "java/lang/Object" s H a := by
  obtain ⟨e, h1, h2⟩ := am_RW_get hw hc ha
  rcases e with ⟨cA, n, g⟩ | ⟨ci, gs⟩
  · rcases cl with ⟨t, m2, f⟩ | ⟨cj, fs⟩
    · obtain ⟨rfl, rfl, ht, -⟩ := h2
      obtain ⟨c0, t0, f1, f2, f3⟩ := Cond.castable_spec (va_Nw.use (A := #[]) rfl (hO.2 t ht))
      cases (am_nmT hK ht).symm.trans f1
      obtain ⟨kC, hkC, -⟩ := Vm.findClass_spec (am_nmT hK ht)
      have hcv : (vp_cell (k.2.2.1 t) (m2, g)).vm = .none ∧ (vp_cell (k.2.2.1 t) (m2, g)).cls = k.2.2.1 t := by
        rcases g with g | g | g | g | g <;> exact ⟨rfl, rfl⟩
      refine ⟨_, hP i _ h1, by rw [hcv.1]; rfl, ⟨kC, by rw [hcv.2]; exact hkC⟩, fun comp hcomp => ?_⟩
      rw [hcv.2]
      cases hcomp.symm.trans f2
      exact f3
    · exact h2.elim
  · obtain ⟨⟨C, T, N⟩, hcl⟩ := am_P_cl hP h1
    refine va_rAny hK hP h1 hcl (fun comp c0 hcomp hc0 => ?_)
    obtain ⟨c1, t0, f1, f2, f3⟩ := Cond.castable_spec (va_Nw.use (A := #[]) rfl (hO.1 ci _ hcl))
    cases hcomp.symm.trans f2
    cases hc0.symm.trans f1
    exact f3
theorem sim_aast (hx : p.tables.exec = Jvm.exec) (hb : c.code = cc) (hK : va_K k.2.1 am_cl (am_tys k.2.2.1) s) (hO : am_isO s) (hdg : decode cc pc = .ok (.aastore, 1))
    (hs : am_aast pc ls st h = some S) (Rl : am_Rel k (am_X k b) nL s as0 as ws ls st h ls1 st1 H locs) (go : am_Go p l e R s m args below meth c Q k (am_X k b) nL as0 S cells slots) : W p l e R s m args below meth c H locs cells slots Q (F0 m pc ls1 st1) := by
  unfold am_aast at hs
  split at hs
  · next v i a r =>
    obtain ⟨t, hl, hst, hw, hP, hD, hS⟩ := Rl
    split at hs
    · next ha =>
      obtain ⟨qv, r00, hqv, rfl, hst00⟩ := am_RS_ref hst ha.2
      obtain ⟨r0, rfl, hst0⟩ := am_RS_int hst00
      obtain ⟨q, r', hq, rfl, hst'⟩ := am_RS_ref hst0 ha.1
      split at hs
      · next ty n f cl hcell hcv =>
        split at hs
        · next hi =>
          cases hs
          obtain ⟨g, hg, ht5, hra⟩ := am_arr_at hw hcell hq
          rcases g with g | g | g | g | g <;> try exact hra.elim
          have hra' : am_RA as (.inr (.inr (.inr (.inr (va_up f i.toNatClampNeg (some v)))))) (.inr (.inr (.inr (.inr (va_up g i.toNatClampNeg (some qv)))))) := by
            intro j
            by_cases hj : j = i.toNatClampNeg
            · refine ⟨fun z => ?_, fun u z => ?_⟩
              · simp only [va_up, if_pos hj] at z; cases z
              · simp only [va_up, if_pos hj] at z ⊢
                cases z
                exact ⟨ha.2, qv, hqv, rfl⟩
            · simp only [va_up, if_neg hj]
              exact hra j
          have fin : ∀ (H1 : Heap) (locs1 : List Loc), va_P k.2.1 am_cl (ws.set a (q, .inl (k.2.2.1 ty, n, .inr (.inr (.inr (.inr (va_up g i.toNatClampNeg (some qv)))))))) H1 → va_D (am_A k) (ws.set a (q, .inl (k.2.2.1 ty, n, .inr (.inr (.inr (.inr (va_up g i.toNatClampNeg (some qv)))))))) → va_S (am_A k) s.heap H1 locs1 → W p l e R s m args below meth c H1 locs1 cells slots Q (F0 m (pc + 1) ls1 r') :=
            fun H1 locs1 hP1 hD1 hS1 => go as _ ls1 r' H1 locs1 ⟨t, hl, hst', am_RW_set hw hq (am_RC_arr (b := .inr (.inr (.inr (.inr (va_up g i.toNatClampNeg (some qv)))))) ht5 hra'), hP1, hD1, hS1⟩
          have hin := am_in hi.2.1 hi.2.2
          have hmay := hi.1
          rcases cl with ⟨u, m2, f2⟩ | ⟨ci, fs⟩
          · have e5 : ty = 5 := of_decide_eq_true hmay
            subst e5
            exact va_astqM (E := "java/lang/Object") hx hb hK hP hD hS a 5 hg rfl (am_any hK hO hP hw hcv hqv) hin hdg fin
          · have e5 : (ty = 3 ∧ ci = 0) ∨ (ty = 4 ∧ ci = 1) ∨ ty = 5 := of_decide_eq_true hmay
            obtain ⟨gs, hgv, -⟩ := am_obj_at hw hcv hqv
            rcases e5 with ⟨rfl, rfl⟩ | ⟨rfl, rfl⟩ | rfl
            · exact va_astq (r := ("PebbleProofs$Board", am_T0, 9)) hx hb hK hP hD hS a 3 v 0 hg rfl hgv rfl hin hdg fin
            · exact va_astq (r := ("PebbleProofs$FailingPiles", am_T1, 12)) hx hb hK hP hD hS a 4 v 1 hg rfl hgv rfl hin hdg fin
            · exact va_astqM (E := "java/lang/Object") hx hb hK hP hD hS a 5 hg rfl (am_any hK hO hP hw hcv hqv) hin hdg fin
        · cases hs
      · cases hs
    · cases hs
  · next i a r =>
    obtain ⟨t, hl, hst, hw, hP, hD, hS⟩ := Rl
    split at hs
    · next ha =>
      obtain ⟨w0, r00, rfl, rfl, hst00⟩ := am_RS_cons hst
      obtain ⟨r0, rfl, hst0⟩ := am_RS_int hst00
      obtain ⟨q, r', hq, rfl, hst'⟩ := am_RS_ref hst0 ha
      split at hs
      · next ty n f hcell =>
        split at hs
        · next hi =>
          obtain ⟨rfl, hi⟩ := hi
          cases hs
          obtain ⟨g, hg, ht5, hra⟩ := am_arr_at hw hcell hq
          rcases g with g | g | g | g | g <;> try exact hra.elim
          have hra' : am_RA as (.inr (.inr (.inr (.inr (va_up f i.toNatClampNeg none))))) (.inr (.inr (.inr (.inr (va_up g i.toNatClampNeg none))))) := by
            intro j
            by_cases hj : j = i.toNatClampNeg
            · refine ⟨fun z => ?_, fun u z => ?_⟩
              · simp only [va_up, if_pos hj]
              · simp only [va_up, if_pos hj] at z; cases z
            · simp only [va_up, if_neg hj]
              exact hra j
          exact va_astqN (C := "java/lang/Object") hx hb hK hP hD hS a 5 hg rfl (am_in hi.1 hi.2) hdg (fun H1 locs1 hP1 hD1 hS1 => go as _ ls1 r' H1 locs1 ⟨t, hl, hst', am_RW_set hw hq (am_RC_arr (b := .inr (.inr (.inr (.inr (va_up g i.toNatClampNeg none))))) ht5 hra'), hP1, hD1, hS1⟩)
        · cases hs
      · cases hs
    · cases hs
  · cases hs
theorem sim_alen (hx : p.tables.exec = Jvm.exec) (hb : c.code = cc) (hK : va_K k.2.1 am_cl (am_tys k.2.2.1) s) (hstr : am_Str k s s.heap) {scr : ASc} (hscr : ∀ n f, scr = some (n, f) → va_X b n f s s.heap ∧ b < s.heap.size ∧ ¬ am_A k b) (hdg : decode cc pc = .ok (.arraylength, 1))
    (hs : am_alen scr pc ls st h = some S) (Rl : am_Rel k (am_X k b) nL s as0 as ws ls st h ls1 st1 H locs) (go : am_Go p l e R s m args below meth c Q k (am_X k b) nL as0 S cells slots) : W p l e R s m args below meth c H locs cells slots Q (F0 m pc ls1 st1) := by
  unfold am_alen at hs
  split at hs
  · next a r =>
    obtain ⟨t, hl, hst, hw, hP, hD, hS⟩ := Rl
    split at hs
    · next ha =>
      obtain ⟨q, r', hq, rfl, hst'⟩ := am_RS_ref hst ha
      split at hs
      · next ty n f hcell =>
        split at hs
        · cases hs
          obtain ⟨g, hg, ht5, hra⟩ := am_arr_at hw hcell hq
          exact va_alen (x := (n, g)) hx hb hK hP a ty hg (am_tys_at ht5) rfl hdg (go as ws ls1 _ H locs ⟨t, hl, ⟨rfl, hst'⟩, hw, hP, hD, hS⟩)
        · cases hs
      · cases hs
    · next ha =>
      obtain ⟨w, r', rfl, hw0, hst'⟩ := am_RS_cons hst
      have hXx := am_RV_ext hw0 ha
      split at hs
      · next hab =>
        subst hab
        have hw1 := am_X_scr hXx
        subst hw1
        split at hs
        · next n f =>
          cases hs
          obtain ⟨h1, h2, h3⟩ := hscr n f rfl
          exact va_slen hx hb h1 h2 h3 hS hdg (go as ws ls1 _ H locs ⟨t, hl, ⟨rfl, hst'⟩, hw, hP, hD, hS⟩)
        · cases hs
      · next hab0 =>
        split at hs
        · next hab =>
          subst hab
          cases hs
          have hw1 : w = .ref (k.2.2.2.2 100) := am_X_fun k b _ _ _ (by omega) hXx (am_X_stat (i := 0) (by decide))
          subst hw1
          exact va_tlen hx hb hstr.2.2 hS rfl hdg (go as ws ls1 _ H locs ⟨t, hl, ⟨rfl, hst'⟩, hw, hP, hD, hS⟩)
        · split at hs
          · next n f ho =>
            cases hs
            have hw1 := am_X_oa ho hXx
            subst hw1
            exact va_tlen hx hb (hstr.2.1 a n f ho) hS rfl hdg (go as ws ls1 _ H locs ⟨t, hl, ⟨rfl, hst'⟩, hw, hP, hD, hS⟩)
          · cases hs
  · cases hs
theorem sim_copy (hx : p.tables.exec = Jvm.exec) (hb : c.code = cc) (hml : c.maxLocals = nL) (hown : s.vm.findClass own = some m.cls) (hK : va_K k.2.1 am_cl (am_tys k.2.2.1) s) (hO : am_isO s) (hstr : am_Str k s s.heap) {idx : Nat} (hdg : decode cc pc = .ok (.invokestatic idx, 3)) (h1 : (Jvm.Cond.methodLink own idx arraycopyName).before args s = true) (h2 : (Jvm.Cond.native arraycopyName).before args s = true) (h3 : (Jvm.Cond.static arraycopyName).before args s = true) (h4 : (Jvm.Cond.initialized "java/lang/System").before args s = true)
    (hframes : 1 ≤ R.frames) (hlocals : 8 + (nativeFrameWords "java/lang/System" "arraycopy" 5 + 11) ≤ R.locals)
    (hs : am_copy pc ls st h = some S) (Rl : am_Rel k (am_X k b) nL s as0 as ws ls st h ls1 st1 H locs) (go : am_Go p l e R s m args below meth c Q k (am_X k b) nL as0 S cells slots) : W p l e R s m args below meth c H locs cells slots Q (F0 m pc ls1 st1) := by
  unfold am_copy at hs
  split at hs
  · next n dp a sp b0 r =>
    obtain ⟨t, hl, hst, hw, hP, hD, hS⟩ := Rl
    split at hs
    · next hab =>
      obtain ⟨ha, hsum⟩ := hab
      obtain ⟨x1, rfl, g1⟩ := am_RS_int hst
      obtain ⟨x2, rfl, g2⟩ := am_RS_int g1
      obtain ⟨q, x3, hq, rfl, g3⟩ := am_RS_ref g2 ha
      obtain ⟨x4, rfl, g4⟩ := am_RS_int g3
      split at hs
      · next hb0 =>
        obtain ⟨q0, r', hq0, rfl, g5⟩ := am_RS_ref g4 hb0
        have hcat : (r'.map fun v => v.category).sum + (nativeFrameWords "java/lang/System" "arraycopy" 5 + 11) ≤ R.locals := by rw [am_RS_cat (am_X_ok k b) g5]; omega
        split at hs
        · next u0 n0 f u1 n1 g hc0 hc1 =>
          split at hs
          · next hi =>
            cases hs
            obtain ⟨⟨rfl, hty⟩, i1, i2, i3, i4, i5⟩ := hi
            obtain ⟨f', hf', ht8, hra⟩ := am_arr_at hw hc0 hq0
            obtain ⟨g', hg', -, hrb⟩ := am_arr_at hw hc1 hq
            rcases f' with f' | f' | f' | f' | f' <;> try exact hra.elim
            rcases g' with g' | g' | g' | g' | g' <;> try exact hrb.elim
            have e1 : f = f' := hra
            have e2 : g = g' := hrb
            subst e1; subst e2
            have hrk : refKind (am_el u0) = false := by rcases hty with rfl | ⟨rfl | rfl, -⟩ <;> rfl
            have hfit : ∀ i, i < n.toNatClampNeg → fits (am_el u0) (.int (f (sp.toNatClampNeg + i))) = true := by
              intro i hi
              rcases hty with rfl | ⟨-, hf⟩
              · rfl
              · exact hf _ (by omega)
            exact va_copyi hx hb (by rw [hml]; exact hl.1.symm) hown h1 h2 h3 h4 hK hP hD hS b0 a u0 u0 hf' hg' (am_tys_at ht8) (am_tys_at ht8) hrk (am_nn i1) (am_nn i2) (am_nn i3) i4 i5 hfit hframes hcat hdg (fun H1 locs1 hP1 hD1 hS1 => go as _ ls1 r' H1 locs1 ⟨t, hl, g5, am_RW_set hw hq (am_RC_arr (b := .inl (va_cpy f g sp.toNatClampNeg dp.toNatClampNeg n.toNatClampNeg)) ht8 rfl), hP1, hD1, hS1⟩)
          · cases hs
        · next u0 n0 f u1 n1 g hc0 hc1 =>
          split at hs
          · next hi =>
            cases hs
            obtain ⟨⟨rfl, rfl⟩, i1, i2, i3, i4, i5⟩ := hi
            obtain ⟨f', hf', ht8, hra⟩ := am_arr_at hw hc0 hq0
            obtain ⟨g', hg', -, hrb⟩ := am_arr_at hw hc1 hq
            rcases f' with f' | f' | f' | f' | f' <;> try exact hra.elim
            rcases g' with g' | g' | g' | g' | g' <;> try exact hrb.elim
            have hel : ∀ i : Nat, i < n.toNatClampNeg → ∀ y : Nat, f' (sp.toNatClampNeg + i) = some y → va_Any "java/lang/Object" s H y := by
              intro i hi y hy
              cases hff : f (sp.toNatClampNeg + i) with
              | none => rw [(hra _).1 hff] at hy; cases hy
              | some z =>
                obtain ⟨z1, y2, z2, z3⟩ := (hra _).2 z hff
                rw [z3] at hy
                cases hy
                have hzl : z < h.length := by rw [← hw.1]; exact (List.getElem?_eq_some_iff.mp z2).1
                exact am_any hK hO hP hw (List.getElem?_eq_getElem hzl) z2
            have hrc : am_RA as (.inr (.inr (.inr (.inr (va_cpy f g sp.toNatClampNeg dp.toNatClampNeg n.toNatClampNeg))))) (.inr (.inr (.inr (.inr (va_cpy f' g' sp.toNatClampNeg dp.toNatClampNeg n.toNatClampNeg))))) := by
              intro j
              simp only [va_cpy]
              split
              · exact hra _
              · exact hrb j
            exact va_copyM (E0 := "java/lang/Object") (E1 := "java/lang/Object") hx hb (by rw [hml]; exact hl.1.symm) hown h1 h2 h3 h4 hK hP hD hS b0 a 5 5 hf' hg' rfl rfl (am_nn i1) (am_nn i2) (am_nn i3) i4 i5 hel hframes hcat hdg (fun H1 locs1 hP1 hD1 hS1 => go as _ ls1 r' H1 locs1 ⟨t, hl, g5, am_RW_set hw hq (am_RC_arr (b := .inr (.inr (.inr (.inr (va_cpy f' g' sp.toNatClampNeg dp.toNatClampNeg n.toNatClampNeg))))) ht8 hrc), hP1, hD1, hS1⟩)
          · cases hs
        · cases hs
      · next hb0 =>
        obtain ⟨w, r', rfl, hw0, g5⟩ := am_RS_cons g4
        have hcat : (r'.map fun v => v.category).sum + (nativeFrameWords "java/lang/System" "arraycopy" 5 + 11) ≤ R.locals := by rw [am_RS_cat (am_X_ok k b) g5]; omega
        split at hs
        · next n0 f u1 n1 g ho hc1 =>
          split at hs
          · next hi =>
            cases hs
            obtain ⟨rfl, i1, i2, i3, i4, i5⟩ := hi
            have hw1 := am_X_oa ho (am_RV_ext hw0 hb0)
            subst hw1
            obtain ⟨g', hg', -, hrb⟩ := am_arr_at hw hc1 hq
            rcases g' with g' | g' | g' | g' | g' <;> try exact hrb.elim
            have e2 : g = g' := hrb
            subst e2
            exact vk_copyt hx hb (by rw [hml]; exact hl.1.symm) hown h1 h2 h3 h4 hK hP hD hS (hstr.2.1 b0 n0 f ho) a 2 hg' rfl (am_nn i1) (am_nn i2) (am_nn i3) i4 i5 (fun i hi => am_oa_fit ho _ (by omega)) hframes hcat hdg (fun H1 locs1 hP1 hD1 hS1 => go as _ ls1 r' H1 locs1 ⟨t, hl, g5, am_RW_set hw hq (am_RC_arr (b := .inl (va_cpy f g sp.toNatClampNeg dp.toNatClampNeg n.toNatClampNeg)) (by decide) rfl), hP1, hD1, hS1⟩)
          · cases hs
        · cases hs
    · cases hs
  · cases hs
theorem sim_m2 {f : Int32 → Int32 → Int32} (row : ∀ {x y : Int32} {rest : List Value}, (rest.map fun v => v.category).sum ≤ 8 → W p l e R s m args below meth c H locs cells slots Q (F0 m (pc + 3) ls1 (.int (f x y) :: rest)) → W p l e R s m args below meth c H locs cells slots Q (F0 m pc ls1 (.int y :: .int x :: rest))) (hs : am_m2 f pc ls st h = some S) (Rl : am_Rel k (am_X k b) nL s as0 as ws ls st h ls1 st1 H locs) (go : am_Go p l e R s m args below meth c Q k (am_X k b) nL as0 S cells slots) : W p l e R s m args below meth c H locs cells slots Q (F0 m pc ls1 st1) := by
  unfold am_m2 at hs
  split at hs
  · split at hs
    · next hsum =>
      cases hs
      obtain ⟨t, hl, hst, hw, hP, hD, hS⟩ := Rl
      obtain ⟨r1, rfl, h1⟩ := am_RS_int hst
      obtain ⟨r2, rfl, h2⟩ := am_RS_int h1
      exact row (by rw [am_RS_cat (am_X_ok k b) h2]; exact hsum) (go as ws ls1 _ H locs ⟨t, hl, ⟨rfl, h2⟩, hw, hP, hD, hS⟩)
    · cases hs
  · cases hs
theorem sim_obj (hx : p.tables.exec = Jvm.exec) (hb : c.code = cc) (hml : c.maxLocals = nL) (hown : s.vm.findClass own = some m.cls) {idx : Nat} (hdg : decode cc pc = .ok (.invokespecial idx, 3)) (h1 : (Jvm.Cond.methodLink own idx Lib.objectInit).before args s = true) (h2 : (Jvm.Cond.instanceMethod Lib.objectInit).before args s = true) (h3 : (Jvm.Cond.code Lib.objectInit ⟨#[0xb1]⟩ 1 none).before args s = true)
    (hframes : 1 ≤ R.frames) (hlocals : 8 + 12 ≤ R.locals)
    (hs : am_obj pc ls st h = some S) (Rl : am_Rel k (am_X k b) nL s as0 as ws ls st h ls1 st1 H locs) (go : am_Go p l e R s m args below meth c Q k (am_X k b) nL as0 S cells slots) : W p l e R s m args below meth c H locs cells slots Q (F0 m pc ls1 st1) := by
  unfold am_obj at hs
  split at hs
  · next a r =>
    obtain ⟨t, hl, hst, hw, hP, hD, hS⟩ := Rl
    split at hs
    · next ha =>
      obtain ⟨q, r', hq, rfl, g1⟩ := am_RS_ref hst ha.1
      cases hs
      refine W.objInit hx hb hown h1 h2 h3 rfl (by show ls1.size = c.maxLocals; rw [hml]; exact hl.1) rfl hdg hframes ?_ (go as ws ls1 r' H locs ⟨t, hl, g1, hw, hP, hD, hS⟩)
      have h5 := lv_room (m := m) (pc := pc) (ls := ls1) (rest := r') (st := r') (by rw [am_RS_cat (am_X_ok k b) g1]; exact ha.2)
      exact Nat.le_trans (Nat.add_le_add_right h5 12) hlocals
    · cases hs
  · cases hs
end AMR
end
section
/-! ===== what holds of the machine at a method's entry, and what the tables say of each instruction ===== -/
def am_isn : Jvm.Cond → Bool
  | .declares _ => true
  | .castable _ _ => true
  | .methodLinkNest _ _ _ _ => true
  | .fieldLinkNest _ _ _ _ _ _ => true
  | _ => false
/-- the class of arrays of arrays -/
def am_AA (ty : FieldType) (U : State) : Prop := (Jvm.Cond.arrayOver (.array ty)).before #[] U = true
theorem am_AA.moved {ty : FieldType} {u U : State} (hvm : u.vm.Alike U.vm) (h : am_AA ty u) : am_AA ty U := by
  obtain ⟨comp, c, k, h1, h2, h3, h4, h5⟩ := arrayOverA_spec h
  obtain ⟨k', hk', he⟩ := hvm.2.2 _ _ h3
  have hi := (hvm.findIdx?_eq _ (fun _ => rfl)).trans h2
  have hkind : k'.kind = .array comp (.array ty) := by rw [he]; exact h4
  have f1 : U.vm.findClass (FieldType.array ty).toString = some comp := by rw [hvm.findClass]; exact h1
  have f2 : U.vm.findClass ("[" ++ (FieldType.array ty).toString) = some c := by rw [hvm.findClass]; exact h5
  unfold am_AA Cond.before Cond.holds
  simp only [Cond.value]
  rw [f1, Option.bind_some]
  refine (congrArg (fun z => z == some true) (congrArg (fun z => Option.bind z _) hi)).trans ?_
  rw [Option.bind_some, hk', Option.map_some]
  simp only [hkind, f2]
  simp
def am_itH : MethodName := ⟨"java/util/Iterator", "hasNext", "()Z"⟩
def am_itN : MethodName := ⟨"java/util/Iterator", "next", "()Ljava/lang/Object;"⟩
def am_aiH : MethodName := ⟨"java/util/ArrayList$Itr", "hasNext", "()Z"⟩
def am_aiN : MethodName := ⟨"java/util/ArrayList$Itr", "next", "()Ljava/lang/Object;"⟩
/-- the statics that are read, the classes of arrays, the interface, the script -/
def am_Ws (k : AK) (U : State) : Prop := va_Z "java/util/ArrayList" "DEFAULTCAPACITY_EMPTY_ELEMENTDATA" "[Ljava/lang/Object;" (.ref (k.2.2.2.2 100)) (am_A k) U U.heap ∧ va_Z "java/lang/Integer" "DigitOnes" "[B" (.ref (k.2.2.2.2 101)) (am_A k) U U.heap ∧ va_Z "java/lang/Integer" "DigitTens" "[B" (.ref (k.2.2.2.2 102)) (am_A k) U U.heap
def am_Wi (U : State) : Prop := va_AO "java/lang/Object" U ∧ am_AA .boolean U ∧ am_AA .int U ∧ va_Fw "java/util/ArrayList$Itr" am_itH am_aiH U ∧ va_Fw "java/util/ArrayList$Itr" am_itN am_aiN U
def am_Wx (k : AK) (b : Nat) (scr : ASc) (U : State) : Prop := ∀ n f, scr = some (n, f) → va_X b n f U U.heap ∧ b < U.heap.size ∧ ¬ am_A k b
def am_Wd (k : AK) (b : Nat) (scr : ASc) (U : State) : Prop :=
  va_K k.2.1 am_cl (am_tys k.2.2.1) U ∧ k.1 ≤ U.heap.size ∧ am_Str k U U.heap ∧ (∀ q ∈ am_sr, vk_R q.1 q.2.1 (am_txs q.2.2) (k.2.2.2.1 q.2.2) U) ∧ va_Z "java/lang/String" "COMPACT_STRINGS" "Z" (.int 1) (am_A k) U U.heap ∧ va_Zq "jdk/internal/util/Preconditions" "SIOOBE_FORMATTER" "Ljava/util/function/BiFunction;" (am_A k) U U.heap ∧
  vx_Zq Bundle.tN "UNASSIGNED_STACK" Bundle.steD (am_A k) U U.heap ∧ vx_Zq Bundle.tN "SUPPRESSED_SENTINEL" Bundle.listD (am_A k) U U.heap ∧ va_AO "PebbleProofs$Board" U ∧ va_AO "PebbleProofs$FailingPiles" U ∧ (∀ w ∈ lw_tbl, am_isn w = true → va_Nw w U) ∧ (∀ own idx tx, Jvm.Cond.stringRef own idx tx ∈ lw_tbl → ∃ a, vk_R own idx tx a U) ∧ (∀ i j, i < 3 → j < 3 → ¬ i = j → va_Nc (am_exn i) (am_exn j) U) ∧ am_Ws k U ∧ am_Wi U ∧ am_Wx k b scr U
/-- it holds at a callee's entry -/
theorem am_Wd.go {k : AK} {b : Nat} {scr : ASc} {s U : State} {H : Heap} {locs : List Loc} (h : am_Wd k b scr s) (hS : va_S (am_A k) s.heap H locs) (hU : U.heap = H) (hW : s.WarmedH U.vm) : am_Wd k b scr U := by
  obtain ⟨h1, h2, h3, h4, h5, h6, h7, h8, h9, h10, h11, h12, h13, ⟨h14, h15, h16⟩, ⟨h17, h18, h19, h20, h21⟩, h22⟩ := h
  have hal : s.vm.Alike U.vm := hW.alike
  have hq : ∀ a : Nat, a < s.heap.size → ¬ am_A k a → U.heap[a]? = s.heap[a]? := fun a ha hn => by rw [hU]; exact hS.2.1 a ha hn
  refine ⟨va_K.moved hal h1, Nat.le_trans h2 (by rw [hU]; exact hS.1), ⟨fun i hi => ?_, fun a n f ho => (va_T.moved hal (h3.2.1 a n f ho)).kept hq, (va_T.moved hal h3.2.2).kept hq⟩, fun q hm => vk_R.warm hW (h4 q hm), (va_Z.moved hal h5).kept hq, (va_Zq.moved hal h6).kept hq, (vx_Zq.moved hal h7).kept hq, (vx_Zq.moved hal h8).kept hq, va_AO.moved hal h9, va_AO.moved hal h10, fun w hw hi => ?_, fun own idx tx hm => ?_, fun i j hi hj hij => va_Nc.moved hal (h13 i j hi hj hij),
    ⟨(va_Z.moved hal h14).kept hq, (va_Z.moved hal h15).kept hq, (va_Z.moved hal h16).kept hq⟩, ⟨va_AO.moved hal h17, am_AA.moved hal h18, am_AA.moved hal h19, va_Fw.moved (by decide) hal h20, va_Fw.moved (by decide) hal h21⟩, fun n f hn => ?_⟩
  · obtain ⟨a1, a2, a3⟩ := h3.1 i hi
    exact ⟨(va_O.moved hal a1).kept hq, (va_OF.moved hal a2).kept hq, (va_OF.moved hal a3).kept hq⟩
  · have hz := h11 w hw hi
    match w, hi with
    | .declares _, _ => exact va_Nw.warmD hW hz
    | .castable _ _, _ => exact va_Nw.warmC hW hz
    | .methodLinkNest _ _ _ _, _ => exact va_Nw.warmM hW hz
    | .fieldLinkNest _ _ _ _ _ _, _ => exact va_Nw.warmF hW hz
  · obtain ⟨a, ha⟩ := h12 own idx tx hm
    exact ⟨a, vk_R.warm hW ha⟩
  · obtain ⟨x1, x2, x3⟩ := h22 n f hn
    exact ⟨(va_X.moved hal x1).kept (hq b x2 x3), Nat.lt_of_lt_of_le x2 (by rw [hU]; exact hS.1), x3⟩
/-- it doesn't look at the frames -/
theorem am_Wd.blind {k : AK} {b : Nat} {scr : ASc} {U : State} (h : am_Wd k b scr U) (a : Array Value) (g : JFrame) (mk : MethodId) : am_Wd k b scr (U.calling g mk a) := by
  obtain ⟨h1, h2, h3, h4, h5, h6, h7, h8, h9, h10, h11, h12, h13, ⟨h14, h15, h16⟩, ⟨h17, h18, h19, h20, h21⟩, h22⟩ := h
  have hal : U.vm.Alike (U.calling g mk a).vm := Vm.Alike.refl U.vm
  refine ⟨va_K.moved (u := U) hal h1, h2, ⟨fun i hi => ?_, fun a n f ho => va_T.moved (u := U) hal (h3.2.1 a n f ho), va_T.moved (u := U) hal h3.2.2⟩, fun q hm => vk_R.same (u := U) rfl (h4 q hm), va_Z.moved (u := U) hal h5, va_Zq.moved (u := U) hal h6, vx_Zq.moved (u := U) hal h7, vx_Zq.moved (u := U) hal h8, va_AO.moved (u := U) hal h9, va_AO.moved (u := U) hal h10, fun w hw hi => ?_, fun own idx tx hm => ?_, fun i j hi hj hij => va_Nc.moved (u := U) hal (h13 i j hi hj hij),
    ⟨va_Z.moved (u := U) hal h14, va_Z.moved (u := U) hal h15, va_Z.moved (u := U) hal h16⟩, ⟨va_AO.moved (u := U) hal h17, am_AA.moved (u := U) hal h18, am_AA.moved (u := U) hal h19, va_Fw.moved (u := U) (by decide) hal h20, va_Fw.moved (u := U) (by decide) hal h21⟩, fun n f hn => ?_⟩
  · obtain ⟨a1, a2, a3⟩ := h3.1 i hi
    exact ⟨va_O.moved (u := U) hal a1, va_OF.moved (u := U) hal a2, va_OF.moved (u := U) hal a3⟩
  · have hz := h11 w hw hi
    match w, hi with
    | .declares _, _ => exact va_Nw.same (u := U) rfl rfl hz
    | .castable _ _, _ => exact va_Nw.same (u := U) rfl rfl hz
    | .methodLinkNest _ _ _ _, _ => exact va_Nw.same (u := U) rfl rfl hz
    | .fieldLinkNest _ _ _ _ _ _, _ => exact va_Nw.same (u := U) rfl rfl hz
  · obtain ⟨q, hq⟩ := h12 own idx tx hm
    exact ⟨q, vk_R.same (u := U) rfl hq⟩
  · obtain ⟨x1, x2, x3⟩ := h22 n f hn
    exact ⟨va_X.moved (u := U) hal x1, x2, x3⟩
theorem am_Oc : ∀ ci, ci < 12 → ∀ q, am_cl[ci]? = some q → Jvm.Cond.castable q.1 "java/lang/Object" ∈ lw_tbl := by
  intro ci h q hq
  match ci, h, hq with
  | 0, _, hq => cases hq; decide +kernel
  | 1, _, hq => cases hq; decide +kernel
  | 2, _, hq => cases hq; decide +kernel
  | 3, _, hq => cases hq; decide +kernel
  | 4, _, hq => cases hq; decide +kernel
  | 5, _, hq => cases hq; decide +kernel
  | 6, _, hq => cases hq; decide +kernel
  | 7, _, hq => cases hq; decide +kernel
  | 8, _, hq => cases hq; decide +kernel
  | 9, _, hq => cases hq; decide +kernel
  | 10, _, hq => cases hq; decide +kernel
  | 11, _, hq => cases hq; decide +kernel
theorem am_Ot : ∀ t, t < 8 → Jvm.Cond.castable ("[" ++ (am_el t).toString) "java/lang/Object" ∈ lw_tbl := by decide +kernel
theorem am_Wd.isO {k : AK} {b : Nat} {scr : ASc} {U : State} (h : am_Wd k b scr U) : am_isO U := by
  obtain ⟨-, -, -, -, -, -, -, -, -, -, h11, -⟩ := h
  exact ⟨fun ci q hq => h11 _ (am_Oc ci (am_cl_lt hq) q hq) rfl, fun t ht => h11 _ (am_Ot t ht) rfl⟩
/-- a word by its place: chunk 0 the private methods' own, then the tables' eight -/
def am_chunk : Nat → List Jvm.Cond
  | 0 => k2_sels lw_privs
  | 1 => tables_1_1
  | 2 => tables_1_2
  | 3 => tables_1_3
  | 4 => tables_1_4
  | 5 => tables_1_5
  | 6 => tables_1_6
  | 7 => tables_1_7
  | 8 => lw_ups
  | _ => []
def am_wd (q : Nat × Nat) : Option Jvm.Cond := (am_chunk q.1)[q.2]?
theorem am_chunk_in {i : Nat} {w : Jvm.Cond} (h : w ∈ am_chunk i) : w ∈ lw_tbl := by
  show w ∈ (k2_sels lw_privs ++ tables_1) ++ lw_ups
  rw [tables_1]
  simp only [List.mem_append]
  match i, h with
  | 0, h => exact Or.inl (Or.inl h)
  | 1, h => exact Or.inl (Or.inr (Or.inl h))
  | 2, h => exact Or.inl (Or.inr (Or.inr (Or.inl h)))
  | 3, h => exact Or.inl (Or.inr (Or.inr (Or.inr (Or.inl h))))
  | 4, h => exact Or.inl (Or.inr (Or.inr (Or.inr (Or.inr (Or.inl h)))))
  | 5, h => exact Or.inl (Or.inr (Or.inr (Or.inr (Or.inr (Or.inr (Or.inl h))))))
  | 6, h => exact Or.inl (Or.inr (Or.inr (Or.inr (Or.inr (Or.inr (Or.inr (Or.inl h)))))))
  | 7, h => exact Or.inl (Or.inr (Or.inr (Or.inr (Or.inr (Or.inr (Or.inr (Or.inr h)))))))
  | 8, h => exact Or.inr h
  | (n + 9), h => exact absurd h List.not_mem_nil
theorem am_wd_in {q : Nat × Nat} {w : Jvm.Cond} (h : am_wd q = some w) : w ∈ lw_tbl := am_chunk_in (List.mem_of_getElem? h)
def am_hs (q : Nat × Nat) (w : Jvm.Cond) : Bool := decide (am_wd q = some w) && goodWord w
theorem am_hs_in {q : Nat × Nat} {w : Jvm.Cond} (h : am_hs q w = true) : w ∈ am_T := by
  simp only [am_hs, Bool.and_eq_true, decide_eq_true_eq] at h
  exact am_T_in (am_wd_in h.1) h.2
def am_len : Instr → Nat
  | .bipush _ | .ldc _ | .iload _ | .lload _ | .aload _ | .istore _ | .lstore _ | .astore _ | .newarray _ => 2
  | .sipush _ | .ldc_w _ | .ldc2_w _ | .iinc _ _ | .goto _ | .ifCond _ _ | .if_acmp _ _ | .checkcast _ | .if_icmp _ _ | .ifnull _ | .ifnonnull _ | .getfield _ | .putfield _ | .getstatic _ | .new _ | .anewarray _ | .invokestatic _ | .invokevirtual _ | .invokespecial _ => 3
  | .multianewarray _ _ => 4
  | .invokeinterface _ _ => 5
  | _ => 1
def am_dec (cc : ByteArray) (pc : Nat) (i : Instr) (n : Nat) : Bool := match decode cc pc with
  | .ok (j, m) => decide (j = i) && m == n
  | _ => false
theorem am_dec_ok {cc : ByteArray} {pc n : Nat} {i : Instr} (h : am_dec cc pc i n = true) : decode cc pc = .ok (i, n) := by
  unfold am_dec at h
  split at h
  · next j m hj =>
    simp only [Bool.and_eq_true, decide_eq_true_eq, beq_iff_eq] at h
    rw [hj, h.1, h.2]
  · cases h
def am_np (Y : AMe) : Nat := Y.2.2.2.1
def am_xn : List String := ["java/lang/RuntimeException", "java/lang/Exception"]
/-- what follows an exception's 'new': dup, its text, its constructor, athrow -/
def am_okT (own : String) (cc : ByteArray) (pc ik r2 : Nat) (J : List (Nat × Nat)) : Bool :=
  am_hs (J.getD 0 (99, 0)) (.classLink own ik (am_exn r2)) && am_hs (J.getD 1 (99, 0)) (.initialized (am_exn r2)) && am_dec cc (pc + 3) .dup 1 &&
  (match decode cc (pc + 4), am_wd (J.getD 2 (99, 0)) with
  | .ok (.ldc is, 2), some (.stringRef o i _) => decide (o = own) && i == is && am_dec cc (pc + 9) .athrow 1 && (match decode cc (pc + 6) with
    | .ok (.invokespecial ic, 3) => decide (own = "PebbleProofs") && ic == am_ic r2
    | _ => false)
  | .ok (.ldc_w is, 3), some (.stringRef o i _) => decide (o = own) && i == is && am_dec cc (pc + 10) .athrow 1 && (match decode cc (pc + 7) with
    | .ok (.invokespecial ic, 3) => decide (own = "PebbleProofs") && ic == am_ic r2
    | _ => false)
  | _, _ => false)
/-- a field's link, direct or of a nest mate -/
def am_okG (own : String) (idx : Nat) (q : String × String × String × Bool) (a b : Nat × Nat) : Bool := match am_wd a with
  | some (.fieldLink o i ref n d) => decide (o = own) && i == idx && decide (n = q.2.1) && decide (d = q.2.2.1) && am_hs a (.fieldLink o i ref n d) && (decide (ref = q.1) || am_hs b (.sameField ref q.1 q.2.1 q.2.2.1))
  | _ => false
def am_okF (own : String) (idx : Nat) (q : String × String × String × Bool) (a b : Nat × Nat) : Bool := am_okG own idx q a b || (match am_wd a with
  | some (.fieldLinkNest o i ref n d _) => decide (o = own) && i == idx && decide (ref = q.1) && decide (n = q.2.1) && decide (d = q.2.2.1)
  | _ => false)
def am_okN (own : String) (idx : Nat) (y : MethodName) (a : Nat × Nat) : Bool := match am_wd a with
  | some (.methodLinkNest o i x _) => decide (o = own) && i == idx && decide (x = y)
  | _ => false
theorem am_okG_ok {own : String} {idx : Nat} {q : String × String × String × Bool} {a b : Nat × Nat} (h : am_okG own idx q a b = true) : ∃ ref, Jvm.Cond.fieldLink own idx ref q.2.1 q.2.2.1 ∈ am_T ∧ (ref = q.1 ∨ Jvm.Cond.sameField ref q.1 q.2.1 q.2.2.1 ∈ am_T) := by
  unfold am_okG at h
  split at h
  · next o i ref n d hw =>
    simp only [Bool.and_eq_true, Bool.or_eq_true, decide_eq_true_eq, beq_iff_eq] at h
    obtain ⟨⟨⟨⟨⟨rfl, rfl⟩, rfl⟩, rfl⟩, h5⟩, h6⟩ := h
    exact ⟨ref, am_hs_in h5, h6.imp id am_hs_in⟩
  · cases h
theorem am_okN_ok {own : String} {idx : Nat} {y : MethodName} {a : Nat × Nat} (h : am_okN own idx y a = true) : ∃ host, Jvm.Cond.methodLinkNest own idx y host ∈ lw_tbl := by
  unfold am_okN at h
  split at h
  · next o i x host hw =>
    simp only [Bool.and_eq_true, decide_eq_true_eq, beq_iff_eq] at h
    obtain ⟨⟨rfl, rfl⟩, rfl⟩ := h
    exact ⟨host, am_wd_in hw⟩
  · cases h
theorem am_okF_ok {own : String} {idx : Nat} {q : String × String × String × Bool} {a b : Nat × Nat} {s : State} (hN : ∀ w ∈ lw_tbl, am_isn w = true → va_Nw w s) (h : am_okF own idx q a b = true) : (∃ ref, Jvm.Cond.fieldLink own idx ref q.2.1 q.2.2.1 ∈ am_T ∧ (ref = q.1 ∨ Jvm.Cond.sameField ref q.1 q.2.1 q.2.2.1 ∈ am_T)) ∨ (∃ host, va_Nw (.fieldLinkNest own idx q.1 q.2.1 q.2.2.1 host) s) := by
  unfold am_okF at h
  rw [Bool.or_eq_true] at h
  rcases h with h | h
  · exact Or.inl (am_okG_ok h)
  · split at h
    · next o i ref n d host hw =>
      simp only [Bool.and_eq_true, decide_eq_true_eq, beq_iff_eq] at h
      obtain ⟨⟨⟨⟨rfl, rfl⟩, rfl⟩, rfl⟩, rfl⟩ := h
      exact Or.inr ⟨host, hN _ (am_wd_in hw) rfl⟩
    · cases h
/-- an array's clone() -/
def am_okC (own : String) (idx : Nat) (ad : String) (J : List (Nat × Nat)) : Bool := am_hs (J.getD 0 (99, 0)) (.methodLink own idx ⟨ad, "clone", "()Ljava/lang/Object;"⟩) && am_hs (J.getD 1 (99, 0)) (.sameMethod ad "java/lang/Object" "clone" "()Ljava/lang/Object;") && am_hs (J.getD 2 (99, 0)) (.native ⟨"java/lang/Object", "clone", "()Ljava/lang/Object;"⟩) && am_hs (J.getD 3 (99, 0)) (.instanceMethod ⟨"java/lang/Object", "clone", "()Ljava/lang/Object;"⟩) && am_hs (J.getD 4 (99, 0)) (.selects ad ⟨ad, "clone", "()Ljava/lang/Object;"⟩ ⟨"java/lang/Object", "clone", "()Ljava/lang/Object;"⟩) && decide (am_wd (J.getD 5 (99, 0)) = some (.castable ad "java/lang/Cloneable"))
/-- a method of StringBuilder's parent class, found by the receiver -/
def am_okU (own : String) (idx : Nat) (y : MethodName) (J : List (Nat × Nat)) : Bool := match am_wd (J.getD 0 (99, 0)), am_wd (J.getD 6 (99, 0)) with
  | some (.methodLink o i x), some (.code z _ _ _) => decide (o = own) && i == idx && decide (z = x) && decide (x.cls = "java/lang/AbstractStringBuilder") && decide (x.desc = y.desc) && am_hs (J.getD 0 (99, 0)) (.methodLink o i x) && am_hs (J.getD 2 (99, 0)) (.selects "java/lang/StringBuilder" x y) && am_hs (J.getD 4 (99, 0)) (.sameMethod x.cls "java/lang/AbstractStringBuilder" x.name x.desc) && am_hs (J.getD 5 (99, 0)) (.instanceMethod x) && goodWord ((am_wd (J.getD 6 (99, 0))).getD .tt)
  | _, _ => false
theorem am_okU_ok {own : String} {idx : Nat} {y : MethodName} {J : List (Nat × Nat)} (h : am_okU own idx y J = true) : ∃ (x : MethodName) (b : ByteArray) (m : Nat) (r : Option FieldType), x.cls = "java/lang/AbstractStringBuilder" ∧ x.desc = y.desc ∧ Jvm.Cond.methodLink own idx x ∈ am_T ∧ Jvm.Cond.selects "java/lang/StringBuilder" x y ∈ am_T ∧ Jvm.Cond.sameMethod x.cls "java/lang/AbstractStringBuilder" x.name x.desc ∈ am_T ∧ Jvm.Cond.instanceMethod x ∈ am_T ∧ Jvm.Cond.code x b m r ∈ am_T := by
  unfold am_okU at h
  split at h
  · next o i x z b m r h0 h6 =>
    simp only [Bool.and_eq_true, decide_eq_true_eq, beq_iff_eq] at h
    obtain ⟨⟨⟨⟨⟨⟨⟨⟨⟨rfl, rfl⟩, rfl⟩, a1⟩, a2⟩, a3⟩, a4⟩, a5⟩, a6⟩, a7⟩ := h
    refine ⟨z, b, m, r, a1, a2, am_hs_in a3, am_hs_in a4, am_hs_in a5, am_hs_in a6, am_T_in (am_wd_in h6) ?_⟩
    rw [h6] at a7
    exact a7
  · cases h
def am_okI (own nm : String) (cc : ByteArray) (pc : Nat) (i : Instr) (r1 r2 : Nat) (J : List (Nat × Nat)) : Bool := match i with
  | .goto off => decide ((pc : Int) + off = (r1 : Int))
  | .ifCond _ off => decide ((pc : Int) + off = (r1 : Int))
  | .if_icmp _ off => decide ((pc : Int) + off = (r1 : Int))
  | .ifnull off => decide ((pc : Int) + off = (r1 : Int))
  | .ifnonnull off => decide ((pc : Int) + off = (r1 : Int))
  | .ldc idx => (r1 != 0 || am_hs (J.getD 0 (99, 0)) (.constant own idx (Int32.ofNat r2))) && (r1 != 1 || decide ((own, idx, r2) ∈ am_sr))
  | .ldc_w idx => (r1 != 0 || am_hs (J.getD 0 (99, 0)) (.constant own idx (Int32.ofNat r2))) && (r1 != 1 || decide ((own, idx, r2) ∈ am_sr))
  | .if_acmp _ off => decide ((pc : Int) + off = (r1 : Int))
  | .checkcast idx => (r1 != 7 || am_hs (J.getD 0 (99, 0)) (.classLink own idx "PebbleProofsLaw$Yard")) && (r1 != 100 || am_hs (J.getD 0 (99, 0)) (.classLink own idx "[I")) && (r1 != 102 || am_hs (J.getD 0 (99, 0)) (.classLink own idx "[B"))
  | .multianewarray idx d => d == 2 && (r1 != 6 || am_hs (J.getD 0 (99, 0)) (.classLink own idx "[[Z")) && (r1 != 7 || am_hs (J.getD 0 (99, 0)) (.classLink own idx "[[I"))
  | .ldc2_w idx => am_hs (J.getD 0 (99, 0)) (.constantLong own idx (Int64.ofNat r1))
  | .getfield idx => match am_cl[r1]? with
    | some q => decide (r2 < q.2.2) && am_okF own idx (q.2.1 r2) (J.getD 0 (99, 0)) (J.getD 1 (99, 0)) && (r1 != 8 || am_hs (J.getD 0 (99, 0)) (.fieldLink own idx "java/lang/String" (am_T8 r2).2.1 (am_T8 r2).2.2.1))
    | none => true
  | .putfield idx => match am_cl[r1]? with
    | some q => decide (r2 < q.2.2) && am_okG own idx (q.2.1 r2) (J.getD 0 (99, 0)) (J.getD 1 (99, 0)) && ((q.2.1 r2).2.2.2 == false || (nm == "<init>" && (q.2.1 r2).1 == own))
    | none => true
  | .getstatic idx => (r1 != 0 || am_hs (J.getD 0 (99, 0)) (.fieldLink own idx "java/lang/String" "COMPACT_STRINGS" "Z")) && (r1 != 1 || am_hs (J.getD 0 (99, 0)) (.fieldLink own idx "jdk/internal/util/Preconditions" "SIOOBE_FORMATTER" "Ljava/util/function/BiFunction;")) && (r1 != 2 || am_hs (J.getD 0 (99, 0)) (.fieldLink own idx "java/util/ArrayList" "DEFAULTCAPACITY_EMPTY_ELEMENTDATA" "[Ljava/lang/Object;")) && (r1 != 3 || am_hs (J.getD 0 (99, 0)) (.fieldLink own idx "java/lang/Integer" "DigitOnes" "[B")) && (r1 != 4 || am_hs (J.getD 0 (99, 0)) (.fieldLink own idx "java/lang/Integer" "DigitTens" "[B"))
  | .new idx => if r1 = 1000 then am_okT own cc pc idx r2 J else match am_cl[r1]? with
    | some q => am_hs (J.getD 0 (99, 0)) (.classLink own idx q.1) && am_hs (J.getD 1 (99, 0)) (.instantiable q.1 q.2.2) && am_hs (J.getD 2 (99, 0)) (.initialized q.1)
    | none => decide (r1 = 1001)
  | .anewarray idx => (r1 != 3 || am_hs (J.getD 0 (99, 0)) (.classLink own idx "PebbleProofs$Board")) && (r1 != 4 || am_hs (J.getD 0 (99, 0)) (.classLink own idx "PebbleProofs$FailingPiles")) && (r1 != 5 || am_hs (J.getD 0 (99, 0)) (.classLink own idx "java/lang/Object"))
  | .invokestatic idx => if r1 = 900 then am_hs (J.getD 0 (99, 0)) (.methodLink own idx arraycopyName) && am_hs (J.getD 1 (99, 0)) (.native arraycopyName) && am_hs (J.getD 2 (99, 0)) (.static arraycopyName) && am_hs (J.getD 3 (99, 0)) (.initialized "java/lang/System")
    else if r1 = 902 then am_hs (J.getD 0 (99, 0)) (.methodLink own idx Lib.Math.max.name) && am_hs (J.getD 1 (99, 0)) (.static Lib.Math.max.name) && am_hs (J.getD 2 (99, 0)) (.initialized "java/lang/Math") && am_hs (J.getD 3 (99, 0)) (.code Lib.Math.max.name Lib.Math.max.code 2 (some .int))
    else if r1 = 903 then am_hs (J.getD 0 (99, 0)) (.methodLink own idx Lib.Math.min.name) && am_hs (J.getD 1 (99, 0)) (.static Lib.Math.min.name) && am_hs (J.getD 2 (99, 0)) (.initialized "java/lang/Math") && am_hs (J.getD 3 (99, 0)) (.code Lib.Math.min.name Lib.Math.min.code 2 (some .int))
    else match am_prog r1 with
    | some Y => (am_hs (J.getD 0 (99, 0)) (.methodLink own idx Y.1) || (am_okN own idx Y.1 (J.getD 0 (99, 0)) && decide (Y.2.2.2.2.2.1 = []))) && am_hs (J.getD 1 (99, 0)) (.static Y.1) && am_hs (J.getD 2 (99, 0)) (.initialized Y.1.cls) && r2 == am_np Y
    | none => true
  | .invokevirtual idx => if r1 = 904 then am_okC own idx "[I" J else if r1 = 905 then am_okC own idx "[B" J else match am_prog r1 with
    | some Y => am_hs (J.getD 1 (99, 0)) (.instanceMethod Y.1) && am_hs (J.getD 3 (99, 0)) (.initialized Y.1.cls) && r2 == am_np Y + 1 && decide (Y.2.2.2.2.2.1 = []) && (if J.length = 4 then am_hs (J.getD 0 (99, 0)) (.methodLink own idx Y.1) && am_hs (J.getD 2 (99, 0)) (.selects Y.1.cls Y.1 Y.1) && decide (¬ Y.1.cls = "java/lang/AbstractStringBuilder") else decide (Y.1.cls = "java/lang/StringBuilder" ∨ Y.1.cls = "java/lang/AbstractStringBuilder") && am_okU own idx Y.1 J)
    | none => true
  | .invokeinterface idx _ => match am_prog r1 with
    | some Y => am_hs (J.getD 0 (99, 0)) (.methodLink own idx ⟨"java/util/Iterator", Y.1.name, Y.1.desc⟩) && am_hs (J.getD 1 (99, 0)) (.selects "java/util/ArrayList$Itr" ⟨"java/util/Iterator", Y.1.name, Y.1.desc⟩ Y.1) && am_hs (J.getD 2 (99, 0)) (.instanceMethod Y.1) && am_hs (J.getD 3 (99, 0)) (.initialized Y.1.cls) && decide (Y.1 = am_aiH ∨ Y.1 = am_aiN) && r2 == am_np Y + 1 && decide (Y.2.2.2.2.2.1 = [])
    | none => true
  | .invokespecial idx => if r1 = 901 then am_hs (J.getD 0 (99, 0)) (.methodLink own idx Lib.objectInit) && am_hs (J.getD 1 (99, 0)) (.instanceMethod Lib.objectInit) && am_hs (J.getD 2 (99, 0)) (.code Lib.objectInit ⟨#[0xb1]⟩ 1 none) else match am_prog r1 with
    | some Y => (am_hs (J.getD 0 (99, 0)) (.methodLink own idx Y.1) || am_okN own idx Y.1 (J.getD 0 (99, 0))) && am_hs (J.getD 1 (99, 0)) (.instanceMethod Y.1) && am_hs (J.getD 2 (99, 0)) (.initialized Y.1.cls) && r2 == am_np Y + 1 && decide (Y.2.2.2.2.2.1 = []) && (if 400 ≤ r1 then am_hs (J.getD 0 (99, 0)) (.methodLink own idx Y.1) && am_hs (J.getD 3 (99, 0)) (.sameMethod Y.1.cls Y.1.cls Y.1.name Y.1.desc) && am_hs (J.getD 4 (99, 0)) (.superclass own Y.1.cls) && Y.1.name != "<init>" else decide (Y.2.2.2.2.1 = none) && Y.1.name == "<init>")
    | none => true
  | _ => true
def am_okE (own nm : String) (cc : ByteArray) (E : AEn) (J : List (Nat × Nat)) : Bool :=
  am_dec cc E.1 E.2.1 (match E.2.1 with
    | .tableswitch _ _ _ _ => E.2.2.2
    | i => am_len i) && am_okI own nm cc E.1 E.2.1 E.2.2.1 E.2.2.2 J
section AMS2
variable {p : Program} {l : Launch} {e : Env} {R : Room} {s : State} {m : MethodId} {args : Array Value} {below : List Frame} {meth : Method} {c : Code} {Q : State → Prop} {k : AK} {b nL : Nat} {as0 as : List Nat} {ws : va_W} {ls : ALs} {st : List Value} {h : AHp} {ls1 : Array Slot} {st1 : List Value} {H : Heap} {locs : List Loc} {cells slots : Nat} {S : ASt} {cc : ByteArray} {own nm : String} {scr : ASc}
/-- a frame: what stays the same while it runs -/
def am_Cx (p : Program) (l : Launch) (R : Room) (s : State) (m : MethodId) (args : Array Value) (meth : Method) (c : Code) (k : AK) (b nL : Nat) (cc : ByteArray) (own nm : String) (scr : ASc) (d : Nat) : Prop :=
  p.tables.exec = Jvm.exec ∧ c.code = cc ∧ c.maxLocals = nL ∧ s.vm.findClass own = some m.cls ∧ (∀ w ∈ am_T, w.before args s = true) ∧ meth.locks = false ∧ meth.name = nm ∧ am_Wd k b scr s ∧ 1 ≤ d ∧ d ≤ R.frames ∧ 35 * d ≤ R.locals ∧ l.stackTraces = false
theorem am_arr0 : (Jvm.Cond.arrayClass .int) ∈ am_T := am_T_in (by decide +kernel) (by decide +kernel)
theorem am_arr1 : (Jvm.Cond.arrayClass .boolean) ∈ am_T := am_T_in (by decide +kernel) (by decide +kernel)
theorem am_arr2 : (Jvm.Cond.arrayClass .byte) ∈ am_T := am_T_in (by decide +kernel) (by decide +kernel)
set_option maxRecDepth 100000 in
set_option maxHeartbeats 1000000 in
theorem sim_step {d : Nat} {E : AEn} {J : List (Nat × Nat)} (C : am_Cx p l R s m args meth c k b nL cc own nm scr d) (hk : am_kind E.2.1 E.2.2.1 = 0) (hok : am_okE own nm cc E J = true) (hs : am_step scr E ls st h = some S) (hrc : cells + S.2.2.2.2.1 ≤ R.cells) (hrs : slots + S.2.2.2.2.2 ≤ R.slots)
    (Rl : am_Rel k (am_X k b) nL s as0 as ws ls st h ls1 st1 H locs) (go : am_Go p l e R s m args below meth c Q k (am_X k b) nL as0 S cells slots) : W p l e R s m args below meth c H locs cells slots Q (F0 m E.1 ls1 st1) := by
  obtain ⟨pc, i, r1, r2⟩ := E
  obtain ⟨hx, hb, hml, hown, hts, hlocks, hnm, hWd, hd1, hd2, hd3, -⟩ := C
  have hO := hWd.isO
  obtain ⟨hK, hz, hstr, hvk, hz1, hz2, -, -, ho3, ho4, hN, -, -, ⟨hz3, hz4, hz5⟩, ⟨ho5, ha6, ha7, -, -⟩, hscr⟩ := hWd
  simp only [am_okE, Bool.and_eq_true] at hok
  obtain ⟨hdc, hoi⟩ := hok
  have hdg := am_dec_ok hdc
  have hXo := am_X_ok k b
  have hXr := am_X_ref k b
  have hXf := am_X_fun k b
  dsimp only at hdg hoi hk
  cases i with
  | iconst v => exact sim_push (v := .int (Int32.ofInt v)) (n := 1) ⟨.int (Int32.ofInt v), rfl, fun rest kk => lv_iconst hx hb hdg rfl kk⟩ hs Rl go
  | bipush v => exact sim_push (v := .int (Int8.ofInt v).toInt32) (n := 2) ⟨.int (Int8.ofInt v).toInt32, rfl, fun rest kk => lv_bipush hx hb hdg rfl kk⟩ hs Rl go
  | sipush v => exact sim_push (v := .int (Int16.ofInt v).toInt32) (n := 3) ⟨.int (Int16.ofInt v).toInt32, rfl, fun rest kk => lv_sipush hx hb hdg rfl kk⟩ hs Rl go
  | lconst v => exact sim_push (v := .long (Int64.ofNat (v : Nat))) (n := 1) ⟨.long (Int64.ofNat (v : Nat)), rfl, fun rest kk => lv_lconst hx hb hdg rfl kk⟩ hs Rl go
  | ldc idx =>
    simp only [am_okI, Bool.and_eq_true, Bool.or_eq_true, bne_iff_ne, ne_eq, decide_eq_true_eq] at hoi
    exact sim_ldc hx hb hts hown hvk hdg (fun q => hoi.1.elim (fun z => absurd q z) am_hs_in) (fun q => hoi.2.elim (fun z => absurd q z) id) hs Rl go
  | ldc_w idx =>
    simp only [am_okI, Bool.and_eq_true, Bool.or_eq_true, bne_iff_ne, ne_eq, decide_eq_true_eq] at hoi
    exact sim_ldcw hx hb hts hown hvk hdg (fun q => hoi.1.elim (fun z => absurd q z) am_hs_in) (fun q => hoi.2.elim (fun z => absurd q z) id) hs Rl go
  | ldc2_w idx =>
    simp only [am_okI] at hoi
    exact sim_push (v := .long (Int64.ofNat r1)) (n := 3) ⟨.long (Int64.ofNat r1), rfl, fun rest kk => lv_ldc2 hx hb hown (hts _ (am_hs_in hoi)) hdg kk⟩ hs Rl go
  | iload n => exact sim_ldi (fun q kk => lv_iload hx hb hdg q kk) hs Rl go
  | iload_n n => exact sim_ldi (fun q kk => lv_iload_n hx hb hdg rfl q kk) hs Rl go
  | lload n => exact sim_ldl (fun q kk => lv_lload hx hb hdg q kk) hs Rl go
  | lload_n n => exact sim_ldl (fun q kk => lv_lload_n hx hb hdg rfl q kk) hs Rl go
  | aload n => exact sim_lda hXr (fun q kk => lv_aload hx hb hdg q kk) (fun q kk => lv_aloadN hx hb hdg q kk) hs Rl go
  | aload_n n => exact sim_lda hXr (fun q kk => lv_aload_n hx hb hdg rfl q kk) (fun q kk => lv_aload_nN hx hb hdg rfl q kk) hs Rl go
  | istore n => exact sim_sti hXo (fun q1 q2 q3 kk => lv_istore hx hb hdg q1 q2 q3 kk) hs Rl go
  | istore_n n => exact sim_sti hXo (fun q1 q2 q3 kk => lv_istore_n hx hb hdg rfl q1 q2 q3 kk) hs Rl go
  | lstore n => exact sim_stl hXo (fun q1 q2 q3 kk => lv_lstore hx hb hdg q1 q2 q3 kk) hs Rl go
  | lstore_n n => exact sim_stl hXo (fun q1 q2 q3 kk => lv_lstore_n hx hb hdg rfl q1 q2 q3 kk) hs Rl go
  | astore n => exact sim_sta hXo hXr (fun q1 q2 q3 kk => lv_astore hx hb hdg q1 q2 q3 kk) (fun q1 q2 q3 kk => lv_astoreN hx hb hdg q1 q2 q3 kk) hs Rl go
  | astore_n n => exact sim_sta hXo hXr (fun q1 q2 q3 kk => lv_astore_n hx hb hdg rfl q1 q2 q3 kk) (fun q1 q2 q3 kk => lv_astore_nN hx hb hdg rfl q1 q2 q3 kk) hs Rl go
  | iinc j n => exact sim_inc hXo hx hb hdg hs Rl go
  | iadd => exact sim_ii (fun kk => lv_iadd hx hb hdg kk) hs Rl go
  | isub => exact sim_ii (fun kk => lv_isub hx hb hdg kk) hs Rl go
  | imul => exact sim_ii (fun kk => lv_imul hx hb hdg kk) hs Rl go
  | iand => exact sim_ii (fun kk => lv_iand hx hb hdg kk) hs Rl go
  | ior => exact sim_ii (fun kk => lv_ior hx hb hdg kk) hs Rl go
  | ixor => exact sim_ii (fun kk => lv_ixor hx hb hdg kk) hs Rl go
  | ishl => exact sim_ii (fun kk => lv_ishl hx hb hdg kk) hs Rl go
  | ishr => exact sim_ii (fun kk => lv_ishr hx hb hdg kk) hs Rl go
  | iushr => exact sim_ii (fun kk => lv_iushr hx hb hdg rfl kk) hs Rl go
  | idiv => exact sim_dv (fun q kk => lv_idiv hx hb hdg q kk) hs Rl go
  | irem => exact sim_dv (fun q kk => lv_irem hx hb hdg q kk) hs Rl go
  | ladd => exact sim_ll (fun kk => lv_ladd hx hb hdg kk) hs Rl go
  | lsub => exact sim_ll (fun kk => lv_lsub hx hb hdg kk) hs Rl go
  | land => exact sim_ll (fun kk => lv_land hx hb hdg kk) hs Rl go
  | lor => exact sim_ll (fun kk => lv_lor hx hb hdg kk) hs Rl go
  | lxor => exact sim_ll (fun kk => lv_lxor hx hb hdg kk) hs Rl go
  | lshl => exact sim_li (fun kk => lv_lshl hx hb hdg rfl kk) hs Rl go
  | lshr => exact sim_li (fun kk => lv_lshr hx hb hdg rfl kk) hs Rl go
  | lushr => exact sim_li (fun kk => lv_lushr hx hb hdg rfl kk) hs Rl go
  | i2l => exact sim_i1 (f := fun x => .long x.toInt64) (fun _ _ => rfl) (fun kk => lv_i2l hx hb hdg rfl kk) hs Rl go
  | i2c => exact sim_i1 (f := fun x => .int (x.toUInt32 % 65536).toInt32) (fun _ _ => rfl) (fun kk => lv_i2c hx hb hdg rfl kk) hs Rl go
  | i2b => exact sim_i1 (f := fun x => .int x.toInt8.toInt32) (fun _ _ => rfl) (fun kk => lv_i2b hx hb hdg rfl kk) hs Rl go
  | ineg => exact sim_i1 (f := fun x => .int (-x)) (fun _ _ => rfl) (fun kk => lv_ineg hx hb hdg kk) hs Rl go
  | aconst_null => exact sim_push (v := .null) (n := 1) ⟨.null, rfl, fun rest kk => lv_null hx hb hdg kk⟩ hs Rl go
  | dup_x1 => exact sim_dup1 hXo (fun q1 q2 kk => lv_dup_x1 hx hb hdg q1 q2 kk) hs Rl go
  | if_acmp cd off =>
    cases cd with
    | eq => exact sim_acq hXr hXf hx hb hdg (of_decide_eq_true hoi) hs Rl go
    | _ => cases hs
  | checkcast idx =>
    simp only [am_okI, Bool.and_eq_true, Bool.or_eq_true, bne_iff_ne, ne_eq] at hoi
    exact sim_cast hx hb hown hK ⟨fun q => hoi.1.1.elim (fun z => absurd q z) (fun z => hts _ (am_hs_in z)), fun q => hoi.1.2.elim (fun z => absurd q z) (fun z => hts _ (am_hs_in z)), fun q => hoi.2.elim (fun z => absurd q z) (fun z => hts _ (am_hs_in z))⟩ hdg hs Rl go
  | multianewarray idx dd =>
    simp only [am_okI, Bool.and_eq_true, Bool.or_eq_true, bne_iff_ne, ne_eq, beq_iff_eq] at hoi
    obtain ⟨⟨rfl, o1⟩, o2⟩ := hoi
    exact sim_newm hx hb hown hK hz (hts _ am_arr0) (hts _ am_arr1) ha6 ha7 ⟨fun q => o1.elim (fun z => absurd q z) (fun z => hts _ (am_hs_in z)), fun q => o2.elim (fun z => absurd q z) (fun z => hts _ (am_hs_in z))⟩ hdg hrc hrs hs Rl go
  | invokevirtual idx =>
    have hr1 : r1 = 904 ∨ r1 = 905 := by
      by_cases q : r1 = 904 ∨ r1 = 905
      · exact q
      · simp only [am_kind, if_neg q] at hk; cases hk
    rcases hr1 with rfl | rfl
    · simp only [am_okI, if_true, am_okC, Bool.and_eq_true, decide_eq_true_eq] at hoi
      exact sim_clone (Or.inl ⟨rfl, rfl⟩) hx hb hml hown hK hz hXo (hts _ (am_hs_in hoi.1.1.1.1.1)) (hts _ (am_hs_in hoi.1.1.1.1.2)) (hts _ (am_hs_in hoi.1.1.1.2)) (hts _ (am_hs_in hoi.1.1.2)) (hts _ (am_hs_in hoi.1.2)) (hN _ (am_wd_in hoi.2) rfl) hdg (by omega) (by omega) hrc hrs hs Rl go
    · simp only [am_okI, show ¬ (905 : Nat) = 904 by decide, if_false, if_true, am_okC, Bool.and_eq_true, decide_eq_true_eq] at hoi
      exact sim_clone (Or.inr ⟨rfl, rfl⟩) hx hb hml hown hK hz hXo (hts _ (am_hs_in hoi.1.1.1.1.1)) (hts _ (am_hs_in hoi.1.1.1.1.2)) (hts _ (am_hs_in hoi.1.1.1.2)) (hts _ (am_hs_in hoi.1.1.2)) (hts _ (am_hs_in hoi.1.2)) (hN _ (am_wd_in hoi.2) rfl) hdg (by omega) (by omega) hrc hrs hs Rl go
  | l2i => exact sim_l2i (fun kk => lv_l2i hx hb hdg rfl kk) hs Rl go
  | lcmp => exact sim_lcmp (fun kk => W.lcmp hx hb hdg kk) hs Rl go
  | dup => exact sim_dup hXo (fun q kk => lv_dup hx hb hdg q kk) hs Rl go
  | dup2 => exact sim_dup2 hXo (fun q1 q2 kk => lv_dup2_11 hx hb hdg q1 q2 kk) hs Rl go
  | pop => exact sim_pop hXo (fun q kk => lv_pop hx hb hdg q kk) hs Rl go
  | goto off => exact sim_goto hx hb hdg (of_decide_eq_true hoi) hs Rl go
  | ifCond cd off => exact sim_z hx hb hdg (of_decide_eq_true hoi) hs Rl go
  | if_icmp cd off => exact sim_c2 hx hb hdg (of_decide_eq_true hoi) hs Rl go
  | ifnull off => exact sim_nul hXr (fun kk => lv_ifnullN hx hb hdg (of_decide_eq_true hoi) kk) (fun kk => lv_ifnull hx hb hdg kk) hs Rl go
  | ifnonnull off => exact sim_nul hXr (fun kk => lv_ifnonnullN hx hb hdg kk) (fun kk => lv_ifnonnull hx hb hdg (of_decide_eq_true hoi) kk) hs Rl go
  | tableswitch dflt lo hi offs => exact sim_tsw hx hb hdg hs Rl go
  | getfield idx =>
    have hh : ∀ C T N, am_cl[r1]? = some (C, T, N) → r2 < N ∧ am_okF own idx (T r2) (J.getD 0 (99, 0)) (J.getD 1 (99, 0)) = true ∧ (r1 = 8 → Jvm.Cond.fieldLink own idx "java/lang/String" (am_T8 r2).2.1 (am_T8 r2).2.2.1 ∈ am_T) := by
      intro C T N hc
      simp only [am_okI] at hoi
      rw [hc] at hoi
      simp only [Bool.and_eq_true, Bool.or_eq_true, decide_eq_true_eq, bne_iff_ne, ne_eq] at hoi
      exact ⟨hoi.1.1, hoi.1.2, fun q => hoi.2.elim (fun z => absurd q z) am_hs_in⟩
    exact sim_get hx hb hts hown hK hstr hdg (fun C T N hc => ⟨(hh C T N hc).1, am_okF_ok hN (hh C T N hc).2.1⟩) (fun q => (hh "java/lang/String" am_T8 4 (by rw [q]; rfl)).2.2 q) hs Rl go
  | putfield idx =>
    refine sim_put hx hb hts hown hK hdg (fun C T N hc => ?_) hs Rl go
    simp only [am_okI] at hoi
    rw [hc] at hoi
    simp only [Bool.and_eq_true, Bool.or_eq_true, decide_eq_true_eq, beq_iff_eq] at hoi
    refine ⟨hoi.1.1, am_okG_ok hoi.1.2, ?_⟩
    cases hfin : (T r2).2.2.2 with
    | false => exact Or.inl rfl
    | true =>
      rcases hoi.2 with q | q
      · rw [hfin] at q; cases q
      · exact Or.inr ⟨rfl, by rw [hnm]; exact q.1, q.2⟩
  | getstatic idx =>
    simp only [am_okI, Bool.and_eq_true, Bool.or_eq_true, bne_iff_ne, ne_eq] at hoi
    exact sim_static hx hb hts hown hz1 hz2 hz3 hz4 hz5 hdg (fun q => hoi.1.1.1.1.elim (fun z => absurd q z) am_hs_in) (fun q => hoi.1.1.1.2.elim (fun z => absurd q z) am_hs_in) (fun q => hoi.1.1.2.elim (fun z => absurd q z) am_hs_in) (fun q => hoi.1.2.elim (fun z => absurd q z) am_hs_in) (fun q => hoi.2.elim (fun z => absurd q z) am_hs_in) hs Rl go
  | iaload => exact sim_iald hx hb hK hscr hdg hs Rl go
  | baload =>
    delta am_step at hs
    dsimp only at hs
    exact sim_bald hx hb hK hstr hdg hs Rl go
  | aaload => exact sim_aald hx hb hK hdg hs Rl go
  | iastore => exact sim_iast hx hb hK hdg hs Rl go
  | bastore => exact sim_bast hx hb hK hdg hs Rl go
  | aastore => exact sim_aast hx hb hK hO hdg hs Rl go
  | arraylength =>
    delta am_step at hs
    dsimp only at hs
    exact sim_alen hx hb hK hstr hscr hdg hs Rl go
  | new idx =>
    have hr1 : ¬ r1 = 1000 := fun q => by simp only [am_kind, if_pos q] at hk; cases hk
    simp only [am_okI, if_neg hr1] at hoi
    split at hoi
    · next q hq =>
      obtain ⟨C, T, N⟩ := q
      simp only [Bool.and_eq_true] at hoi
      exact sim_new hx hb hts hown hK hz hq hdg (am_hs_in hoi.1.1) (am_hs_in hoi.1.2) (am_hs_in hoi.2) hrc hrs hs Rl go
    · have h9 : r1 = 1001 := of_decide_eq_true hoi
      subst h9
      simp only [am_step, am_new] at hs
      rw [if_neg (by omega)] at hs
      cases hs
  | newarray t => exact sim_newa hx hb hK hz (hts _ am_arr0) (hts _ am_arr1) (hts _ am_arr2) hdg hrc hrs hs Rl go
  | anewarray idx =>
    simp only [am_okI, Bool.and_eq_true, Bool.or_eq_true, bne_iff_ne, ne_eq] at hoi
    exact sim_newq hx hb hown hK hz ho3 ho4 ho5 ⟨fun q => hoi.1.1.elim (fun z => absurd q z) (fun z => hts _ (am_hs_in z)), fun q => hoi.1.2.elim (fun z => absurd q z) (fun z => hts _ (am_hs_in z)), fun q => hoi.2.elim (fun z => absurd q z) (fun z => hts _ (am_hs_in z))⟩ hdg hrc hrs hs Rl go
  | invokestatic idx =>
    have hr1 : r1 = 900 ∨ r1 = 902 ∨ r1 = 903 := by
      by_cases q : r1 = 900 ∨ r1 = 902 ∨ r1 = 903
      · exact q
      · simp only [am_kind, if_neg q] at hk; cases hk
    rcases hr1 with rfl | rfl | rfl
    · simp only [am_okI, if_true, Bool.and_eq_true] at hoi
      delta am_step at hs
      dsimp only at hs
      rw [if_neg (by decide), if_neg (by decide)] at hs
      exact sim_copy hx hb hml hown hK hO hstr hdg (hts _ (am_hs_in hoi.1.1.1)) (hts _ (am_hs_in hoi.1.1.2)) (hts _ (am_hs_in hoi.1.2)) (hts _ (am_hs_in hoi.2)) (by omega) (Nat.le_trans (by decide +kernel : 8 + (nativeFrameWords "java/lang/System" "arraycopy" 5 + 11) ≤ 35) (by omega)) hs Rl go
    · simp only [am_okI, show ¬ (902 : Nat) = 900 by decide, if_false, if_true, Bool.and_eq_true] at hoi
      have hsz : c.maxLocals = ls1.size := by rw [hml]; exact Rl.2.1.1.symm
      exact sim_m2 (fun q kk => va_mmax hx hb hsz hown (hts _ (am_hs_in hoi.1.1.1)) (hts _ (am_hs_in hoi.1.1.2)) (hts _ (am_hs_in hoi.1.2)) (hts _ (am_hs_in hoi.2)) (by omega) (by omega) (by omega) (by omega) hdg kk) hs Rl go
    · simp only [am_okI, show ¬ (903 : Nat) = 900 by decide, show ¬ (903 : Nat) = 902 by decide, if_false, if_true, Bool.and_eq_true] at hoi
      have hsz : c.maxLocals = ls1.size := by rw [hml]; exact Rl.2.1.1.symm
      exact sim_m2 (fun q kk => va_mmin hx hb hsz hown (hts _ (am_hs_in hoi.1.1.1)) (hts _ (am_hs_in hoi.1.1.2)) (hts _ (am_hs_in hoi.1.2)) (hts _ (am_hs_in hoi.2)) (by omega) (by omega) (by omega) (by omega) hdg kk) hs Rl go
  | invokespecial idx =>
    have hr1 : r1 = 901 := by
      by_cases q : r1 = 901
      · exact q
      · simp only [am_kind, if_neg q] at hk; cases hk
    simp only [am_okI, if_pos hr1, Bool.and_eq_true] at hoi
    exact sim_obj hx hb hml hown hdg (hts _ (am_hs_in hoi.1.1)) (hts _ (am_hs_in hoi.1.2)) (hts _ (am_hs_in hoi.2)) (by omega) (by omega) hs Rl go
  | _ => cases hs
end AMS2
end
section
/-! ===== what the tables say of a method ===== -/
def am_cw (Y : AMe) : Jvm.Cond := match Y.2.2.2.2.2.1 with
  | [] => .code Y.1 Y.2.1 Y.2.2.1 Y.2.2.2.2.1
  | q :: r => .codeWith Y.1 Y.2.1 Y.2.2.1 Y.2.2.2.2.1 ((q :: r).map fun z => (z.1, z.2.1, z.2.2.1, z.2.2.2.1))
/-- what the tables say of a method -/
def am_okY (Y : AMe) : Prop := plainName Y.1.cls = true ∧ (Y.1.cls ≠ "java/lang/invoke/MethodHandle" ∧ Y.1.cls ≠ "java/lang/invoke/VarHandle") ∧ Y.2.2.1 ≤ 16 ∧ (parseMethodDescriptor Y.1.desc).map (fun d => d.parameters.length) = some (am_np Y) ∧ am_cw Y ∈ am_T
/-- what the tables say of each instruction of a method, and of its handlers -/
def am_okB (Y : AMe) : Prop := ∀ pc E, am_find Y.2.2.2.2.2.2 pc = some E → ∃ J, am_okE Y.1.cls Y.1.name Y.2.1 E J = true
def am_okH (Y : AMe) : Prop := ∀ q ∈ Y.2.2.2.2.2.1, q.2.2.2.2 < 3 ∧ ¬ q.2.2.2.1 = 0 ∧ Jvm.Cond.classLink Y.1.cls q.2.2.2.1 (am_exn q.2.2.2.2) ∈ am_T
/-! ===== the program is as the tables say (by wip/whole/genprog.py) ===== -/
def am_okL (own nm : String) (cc : ByteArray) (L : List AEn) : Prop := ∀ E ∈ L, ∃ J, am_okE own nm cc E J = true
theorem am_okL_of {own nm : String} {cc : ByteArray} : ∀ {L : List AEn} {Js : List (List (Nat × Nat))}, L.length = Js.length → (L.zip Js).all (fun q => am_okE own nm cc q.1 q.2) = true → am_okL own nm cc L
  | [], _, _, _ => fun E h => absurd h List.not_mem_nil
  | E :: L, [], h, _ => by cases h
  | E :: L, J :: Js, h, h2 => by
    rw [List.zip_cons_cons, List.all_cons, Bool.and_eq_true] at h2
    intro F hF
    rcases List.mem_cons.mp hF with rfl | q
    · exact ⟨J, h2.1⟩
    · exact am_okL_of (Nat.succ.inj h) h2.2 F q
theorem am_okL_app {own nm : String} {cc : ByteArray} {L1 L2 : List AEn} (h1 : am_okL own nm cc L1) (h2 : am_okL own nm cc L2) : am_okL own nm cc (L1 ++ L2) := fun E h => (List.mem_append.mp h).elim (h1 E) (h2 E)
theorem am_find_mem : ∀ {L : List AEn} {pc : Nat} {E : AEn}, am_find L pc = some E → E ∈ L
  | [], _, _, h => by cases h
  | q :: L, pc, E, h => by
    unfold am_find at h
    split at h
    · cases h; exact List.mem_cons_self
    · exact List.mem_cons_of_mem _ (am_find_mem h)
def am_okA (Y : AMe) : Prop := am_okY Y ∧ am_okB Y ∧ am_okH Y
theorem am_mk {Y : AMe} (q : Nat × Nat) (h1 : (plainName Y.1.cls && decide (Y.1.cls ≠ "java/lang/invoke/MethodHandle" ∧ Y.1.cls ≠ "java/lang/invoke/VarHandle") && decide (Y.2.2.1 ≤ 16) && decide ((parseMethodDescriptor Y.1.desc).map (fun d => d.parameters.length) = some (am_np Y)) && am_hs q (am_cw Y)) = true) (h2 : am_okL Y.1.cls Y.1.name Y.2.1 Y.2.2.2.2.2.2) (h3 : am_okH Y) : am_okA Y := by
  simp only [Bool.and_eq_true, decide_eq_true_eq] at h1
  exact ⟨⟨h1.1.1.1.1, h1.1.1.1.2, h1.1.1.2, h1.1.2, am_hs_in h1.2⟩, fun pc E h => h2 E (am_find_mem h), h3⟩
theorem am_h0 {Y : AMe} (h : Y.2.2.2.2.2.1 = []) : am_okH Y := fun q hq => by rw [h] at hq; cases hq
theorem am_h1 {Y : AMe} (qs : List (Nat × Nat)) (h : (Y.2.2.2.2.2.1.zip qs).all (fun z => decide (z.1.2.2.2.2 < 3) && decide (¬ z.1.2.2.2.1 = 0) && am_hs z.2 (.classLink Y.1.cls z.1.2.2.2.1 (am_exn z.1.2.2.2.2))) = true) (hl : Y.2.2.2.2.2.1.length = qs.length) : am_okH Y := by
  intro q hq
  obtain ⟨i, hi⟩ := List.getElem?_of_mem hq
  have hlt := (List.getElem?_eq_some_iff.mp hi).1
  have hz : (q, qs[i]'(by rw [← hl]; exact hlt)) ∈ Y.2.2.2.2.2.1.zip qs := List.mem_of_getElem? (i := i) (by rw [List.getElem?_zip_eq_some]; exact ⟨hi, List.getElem?_eq_getElem (by rw [← hl]; exact hlt)⟩)
  have h2 := List.all_eq_true.mp h _ hz
  simp only [Bool.and_eq_true, decide_eq_true_eq] at h2
  exact ⟨h2.1.1, h2.1.2, am_hs_in h2.2⟩
theorem am_ac {a : AMe} {L : List AMe} (h : am_okA a) (t : ∀ x ∈ L, am_okA x) : ∀ x ∈ a :: L, am_okA x := fun x hx => (List.mem_cons.mp hx).elim (fun q => q ▸ h) (t x)
theorem am_an : ∀ x ∈ ([] : List AMe), am_okA x := fun x hx => absurd hx List.not_mem_nil
theorem am_c0_0 : am_okL "PebbleProofs$Board" "<init>" am_M0.2.1 am_e0_0 := am_okL_of (Js := [[], [(1, 47), (1, 40), (1, 41)], [], [], [], [(1, 59)], [], [], [], [(1, 62)], [], [], [], [(1, 63)], [], [], [], [(1, 66)], [], [], [], [(1, 67)], []]) rfl (by decide +kernel)
theorem am_y0 : am_okA am_M0 := am_mk (1, 46) (by decide +kernel) am_c0_0 (am_h0 rfl)
theorem am_c1_0 : am_okL "PebbleProofs$Board" "begin" am_M1.2.1 am_e1_0 := am_okL_of (Js := [[], [], [(1, 48)], [], [], [(1, 52)], [], [], [(1, 54)], [], [], [(1, 56)], [], [(1, 59)], [], [(1, 173), (1, 174), (1, 6)], []]) rfl (by decide +kernel)
theorem am_y1 : am_okA am_M1 := am_mk (1, 172) (by decide +kernel) am_c1_0 (am_h0 rfl)
theorem am_c2_0 : am_okL "PebbleProofs$Board" "copyFrom" am_M2.2.1 am_e2_0 := am_okL_of (Js := [[], [], [(1, 48)], [(1, 48)], [], [], [(1, 52)], [(1, 52)], [], [], [(1, 54)], [(1, 54)], [], [], [(1, 56)], [(1, 56)], [], [(1, 59)], [], [], [(1, 59)], [], [], [(2, 143), (2, 145), (2, 144), (1, 11)], [], [(1, 62)], [], [], [(1, 62)], [], [], [(2, 143), (2, 145), (2, 144), (1, 11)], [], [(1, 63)], [], [], [(1, 63)], [], [], [(2, 143), (2, 145), (2, 144), (1, 11)], [], [(1, 66)], [], [], [(1, 66)], [], [], [(2, 143), (2, 145), (2, 144), (1, 11)], [], [(1, 67)], [], [], [(1, 67)], [], [], [(2, 143), (2, 145), (2, 144), (1, 11)], []]) rfl (by decide +kernel)
theorem am_y2 : am_okA am_M2 := am_mk (2, 142) (by decide +kernel) am_c2_0 (am_h0 rfl)
theorem am_c3_0 : am_okL "PebbleProofs$Board" "edgeBits" am_M3.2.1 am_e3_0 := am_okL_of (Js := [[], [], [], [], [], [], [], [], [], [], [], [], [], [], [], []]) rfl (by decide +kernel)
theorem am_y3 : am_okA am_M3 := am_mk (1, 182) (by decide +kernel) am_c3_0 (am_h0 rfl)
theorem am_c4_0 : am_okL "PebbleProofs$Board" "join" am_M4.2.1 am_e4_0 := am_okL_of (Js := [[], [], [(1, 52)], [], [], [(1, 180), (1, 181), (1, 2)], [], [(1, 52)], []]) rfl (by decide +kernel)
theorem am_y4 : am_okA am_M4 := am_mk (1, 179) (by decide +kernel) am_c4_0 (am_h0 rfl)
theorem am_c5_0 : am_okL "PebbleProofs$Board" "part" am_M5.2.1 am_e5_0 := am_okL_of (Js := [[], [], [(1, 52)], [], [], [(1, 180), (1, 181), (1, 2)], [(6, 34)], [], [], [(1, 52)], []]) rfl (by decide +kernel)
theorem am_y5 : am_okA am_M5 := am_mk (6, 38) (by decide +kernel) am_c5_0 (am_h0 rfl)
theorem am_c6_0 : am_okL "PebbleProofs$Board" "joins" am_M6.2.1 am_e6_0 := am_okL_of (Js := [[], [(1, 52)], [], [], [], [], [], [], [], [], [], [], [], [], [], [], []]) rfl (by decide +kernel)
theorem am_y6 : am_okA am_M6 := am_mk (2, 91) (by decide +kernel) am_c6_0 (am_h0 rfl)
theorem am_c7_0 : am_okL "PebbleProofs$Board" "edgeCount" am_M7.2.1 am_e7_0 := am_okL_of (Js := [[], [(1, 52)], [(5, 36), (5, 37), (1, 25)], [], [], []]) rfl (by decide +kernel)
theorem am_y7 : am_okA am_M7 := am_mk (5, 35) (by decide +kernel) am_c7_0 (am_h0 rfl)
theorem am_c8_0 : am_okL "PebbleProofs$Board" "neighboursIn" am_M8.2.1 am_e8_0 := am_okL_of (Js := [[], [], [], [], [], [], [], [], []]) rfl (by decide +kernel)
theorem am_y8 : am_okA am_M8 := am_mk (1, 197) (by decide +kernel) am_c8_0 (am_h0 rfl)
theorem am_c9_0 : am_okL "PebbleProofs$Board" "neighbours" am_M9.2.1 am_e9_0 := am_okL_of (Js := [[], [(1, 52)], [], [(1, 195), (1, 196), (1, 2)], []]) rfl (by decide +kernel)
theorem am_y9 : am_okA am_M9 := am_mk (1, 194) (by decide +kernel) am_c9_0 (am_h0 rfl)
theorem am_c10_0 : am_okL "PebbleProofs$Board" "isConnectedBy" am_M10.2.1 am_e10_0 := am_okL_of (Js := [[], [], [], [], [], [], [(1, 48)], [], [], [], [], [], [(1, 48)], [], [], [], [], [], [], [], [], [], [], [(1, 195), (1, 196), (1, 2)], [], [], [], [], [], [], [], [(2, 124), (2, 125), (1, 18)], [], [(1, 48)], [], [], [], [], []]) rfl (by decide +kernel)
theorem am_y10 : am_okA am_M10 := am_mk (2, 123) (by decide +kernel) am_c10_0 (am_h0 rfl)
theorem am_c11_0 : am_okL "PebbleProofs$Board" "isConnected" am_M11.2.1 am_e11_0 := am_okL_of (Js := [[], [], [(1, 52)], [(2, 120), (2, 122), (0, 14), (1, 2)], []]) rfl (by decide +kernel)
theorem am_y11 : am_okA am_M11 := am_mk (2, 119) (by decide +kernel) am_c11_0 (am_h0 rfl)
theorem am_c12_0 : am_okL "PebbleProofs$Board" "isConnectedWithout" am_M12.2.1 am_e12_0 := am_okL_of (Js := [[], [], [(1, 52)], [], [], [(1, 180), (1, 181), (1, 2)], [(6, 34)], [], [], [(2, 120), (2, 122), (0, 14), (1, 2)], []]) rfl (by decide +kernel)
theorem am_y12 : am_okA am_M12 := am_mk (6, 33) (by decide +kernel) am_c12_0 (am_h0 rfl)
theorem am_c13_0 : am_okL "PebbleProofs$Board" "measure" am_M13.2.1 am_e13_0 := am_okL_of (Js := [[], [], [], [], [(1, 48)], [], [], [], [(1, 187), (1, 189), (0, 0), (1, 2)], [], [], []]) rfl (by decide +kernel)
theorem am_y13 : am_okA am_M13 := am_mk (1, 186) (by decide +kernel) am_c13_0 (am_h0 rfl)
theorem am_c14_0 : am_okL "PebbleProofs$Board" "measureFrom" am_M14.2.1 am_e14_0 := am_okL_of (Js := [[], [], [], [], [], [], [], [], [], [], [(1, 48)], [], [], [], [], [], [], [], [], [], [], [], [(1, 48)], [], [], [], [], [], [], [], [], [(1, 62)], [], [], [], [], [], [], [], [], [], [], [(1, 191), (1, 192), (1, 193), (1, 2)], [], [], [], [], [], [], [], [], [], [], [], [], []]) rfl (by decide +kernel)
theorem am_y14 : am_okA am_M14 := am_mk (1, 190) (by decide +kernel) am_c14_0 (am_h0 rfl)
theorem am_c15_0 : am_okL "PebbleProofs$Board" "apart" am_M15.2.1 am_e15_0 := am_okL_of (Js := [[], [(1, 62)], [], [], [], [], [], [], []]) rfl (by decide +kernel)
theorem am_y15 : am_okA am_M15 := am_mk (5, 10) (by decide +kernel) am_c15_0 (am_h0 rfl)
theorem am_c18_0 : am_okL "PebbleProofs$Board" "diameter" am_M18.2.1 am_e18_0 := am_okL_of (Js := [[], [], [], [], [], [], [(1, 48)], [], [], [], [], [], [], [], [], [], [], [(5, 50), (5, 8), (5, 9), (1, 2)], [(5, 51), (2, 3), (1, 12), (2, 4)], [], [], [], [], [], [], []]) rfl (by decide +kernel)
theorem am_y18 : am_okA am_M18 := am_mk (5, 49) (by decide +kernel) am_c18_0 (am_h0 rfl)
theorem am_c22_0 : am_okL "PebbleProofs$Board" "allPebbles" am_M22.2.1 am_e22_0 := am_okL_of (Js := [[], [], [], [], [], [], [(1, 48)], [], [], [], [(1, 59)], [], [], [], [], [], [], [], []]) rfl (by decide +kernel)
theorem am_y22 : am_okA am_M22 := am_mk (5, 45) (by decide +kernel) am_c22_0 (am_h0 rfl)
theorem am_c23_0 : am_okL "PebbleProofs$Board" "allowsMove" am_M23.2.1 am_e23_0 := am_okL_of (Js := [[], [(1, 59)], [], [], [], [], [], [], [], [(6, 162), (2, 89), (2, 90), (1, 2)], [], [], [(1, 59)], [], [], [], [], [], [], [], []]) rfl (by decide +kernel)
theorem am_y23 : am_okA am_M23 := am_mk (6, 161) (by decide +kernel) am_c23_0 (am_h0 rfl)
theorem am_c24_0 : am_okL "PebbleProofs$Board" "makeMove" am_M24.2.1 am_e24_0 := am_okL_of (Js := [[], [(1, 59)], [], [], [], [], [], [], [], [(1, 59)], [], [], [], [], [], [], [], [], [(1, 54)], [], [], [(1, 54)], []]) rfl (by decide +kernel)
theorem am_y24 : am_okA am_M24 := am_mk (5, 164) (by decide +kernel) am_c24_0 (am_h0 rfl)
theorem am_c25_0 : am_okL "PebbleProofs$Board" "openStrategy" am_M25.2.1 am_e25_0 := am_okL_of (Js := [[], [(1, 56)], [], [], [(1, 63)], [], [], [], [], [], [], [], [], [], [], [], [], [], [(2, 107), (2, 108), (2, 109), (1, 2)], [], [], [], [], [(1, 56)], [], [], [(1, 56)], []]) rfl (by decide +kernel)
theorem am_y25 : am_okA am_M25 := am_mk (2, 106) (by decide +kernel) am_c25_0 (am_h0 rfl)
theorem am_c26_0 : am_okL "PebbleProofs$Board" "closeStrategy" am_M26.2.1 am_e26_0 := am_okL_of (Js := [[], [], [], [], [], [], [(1, 56)], [], [], [(1, 63)], [], [], [(1, 63)], [], [], [], [], [], [], [], [], [], [(1, 48)], [], [], [], [], [], [], [], [], [], [(6, 195), (5, 81), (5, 82), (1, 2)], [], [], [], [], [], [(6, 196), (5, 77), (5, 78), (1, 2)], [(2, 107), (2, 108), (2, 109), (1, 2)], [], [], [], [], [], [], [(1, 56)], [], [], [(1, 56)], []]) rfl (by decide +kernel)
theorem am_y26 : am_okA am_M26 := am_mk (6, 194) (by decide +kernel) am_c26_0 (am_h0 rfl)
theorem am_c27_0 : am_okL "PebbleProofs$Board" "setWeight" am_M27.2.1 am_e27_0 := am_okL_of (Js := [[], [(1, 66)], [], [], [], [], [], [], [], [], [(1, 67)], [], [], [], [], [], [], [], []]) rfl (by decide +kernel)
theorem am_y27 : am_okA am_M27 := am_mk (2, 110) (by decide +kernel) am_c27_0 (am_h0 rfl)
theorem am_c28_0 : am_okL "PebbleProofs$Board" "weightOf" am_M28.2.1 am_e28_0 := am_okL_of (Js := [[], [(1, 66)], [], [], [], [], [], [], []]) rfl (by decide +kernel)
theorem am_y28 : am_okA am_M28 := am_mk (5, 79) (by decide +kernel) am_c28_0 (am_h0 rfl)
theorem am_c29_0 : am_okL "PebbleProofs$Board" "parentOf" am_M29.2.1 am_e29_0 := am_okL_of (Js := [[], [(1, 67)], [], [], [], [], [], [], []]) rfl (by decide +kernel)
theorem am_y29 : am_okA am_M29 := am_mk (5, 83) (by decide +kernel) am_c29_0 (am_h0 rfl)
theorem am_c36_0 : am_okL "PebbleProofs$FailingPiles" "<init>" am_M36.2.1 am_e36_0 := am_okL_of (Js := [[], [(6, 69), (1, 40), (1, 41)], [], [], [], [(6, 77)], [], [], [], [(6, 78)], [], [], [], [(6, 79)], [], [], [], [(6, 80)], [], [], [], [(6, 81)], [], [], [(6, 70)], []]) rfl (by decide +kernel)
theorem am_y36 : am_okA am_M36 := am_mk (6, 68) (by decide +kernel) am_c36_0 (am_h0 rfl)
theorem am_c37_0 : am_okL "PebbleProofs$FailingPiles" "areOf" am_M37.2.1 am_e37_0 := am_okL_of (Js := [[], [(6, 71)], [], [], [(6, 72)], [], [(1, 49)], [], [], [(6, 73)], [], [(1, 53)], [], [], [], [], [], []]) rfl (by decide +kernel)
theorem am_y37 : am_okA am_M37 := am_mk (6, 110) (by decide +kernel) am_c37_0 (am_h0 rfl)
theorem am_c38_0 : am_okL "PebbleProofs$FailingPiles" "clear" am_M38.2.1 am_e38_0 := am_okL_of (Js := [[], [], [(6, 71)], [], [], [(1, 49)], [(6, 72)], [], [], [(1, 53)], [(6, 73)], [], [(6, 81)], [], [(6, 119), (1, 174), (1, 6)], [], [(6, 77)], [], [(6, 119), (1, 174), (1, 6)], [], [], [], [(6, 72)], [], [], [], [], [], [], [], [(6, 70)], [], [(6, 120), (5, 8), (5, 9), (1, 2)], [], [], [(6, 78)], [], [], [], [], [], [], [], [], [(6, 79)], [], [], [], [], [(6, 80)], [], [], [], [(6, 121), (1, 192), (1, 193), (1, 2)], [], [], [], [], [], []]) rfl (by decide +kernel)
theorem am_c38_1 : am_okL "PebbleProofs$FailingPiles" "clear" am_M38.2.1 am_e38_1 := am_okL_of (Js := [[], []]) rfl (by decide +kernel)
theorem am_y38 : am_okA am_M38 := am_mk (6, 118) (by decide +kernel) (am_okL_app am_c38_0 am_c38_1) (am_h0 rfl)
theorem am_c39_0 : am_okL "PebbleProofs$FailingPiles" "mark" am_M39.2.1 am_e39_0 := am_okL_of (Js := [[], [(6, 81)], [], [], [], [], [], [], [], [], [], [], [], [], [], [], []]) rfl (by decide +kernel)
theorem am_y39 : am_okA am_M39 := am_mk (6, 125) (by decide +kernel) am_c39_0 (am_h0 rfl)
theorem am_c40_0 : am_okL "PebbleProofs$FailingPiles" "isMarked" am_M40.2.1 am_e40_0 := am_okL_of (Js := [[], [(6, 81)], [], [], [], [], [], [], [], [], [], [], [], [], [], [], [], [], []]) rfl (by decide +kernel)
theorem am_y40 : am_okA am_M40 := am_mk (6, 149) (by decide +kernel) am_c40_0 (am_h0 rfl)
theorem am_c41_0 : am_okL "PebbleProofs$FailingPiles" "pebblesOn" am_M41.2.1 am_e41_0 := am_okL_of (Js := [[], [], [(6, 79)], [], [], [], [], [(6, 78)], [], [], [], []]) rfl (by decide +kernel)
theorem am_y41 : am_okA am_M41 := am_mk (6, 141) (by decide +kernel) am_c41_0 (am_h0 rfl)
theorem am_c42_0 : am_okL "PebbleProofs$FailingPiles" "hasRoom" am_M42.2.1 am_e42_0 := am_okL_of (Js := [[], [], [], [], [(6, 79)], [], [], [], [], [(6, 78)], [], [], [], [], [], [], [], []]) rfl (by decide +kernel)
theorem am_y42 : am_okA am_M42 := am_mk (6, 133) (by decide +kernel) am_c42_0 (am_h0 rfl)
theorem am_c43_0 : am_okL "PebbleProofs$FailingPiles" "holds" am_M43.2.1 am_e43_0 := am_okL_of (Js := [[], [], [], [], [], [], [(6, 72)], [], [], [], [], [], [(6, 78)], [], [], [], [], [], [], [], [], [], [], [(6, 79)], [], [], [], [], [], [], [], [], [], [(6, 146), (6, 148), (0, 32), (1, 33)], []]) rfl (by decide +kernel)
theorem am_y43 : am_okA am_M43 := am_mk (6, 153) (by decide +kernel) am_c43_0 (am_h0 rfl)
theorem am_c44_0 : am_okL "PebbleProofs$FailingPiles" "collect" am_M44.2.1 am_e44_0 := am_okL_of (Js := [[], [], [(6, 115), (6, 117), (0, 26), (1, 33)], [], [], [], [], [], [], [(6, 122), (6, 124), (0, 27), (1, 33)], [], [], [], [], [], [], [], [], [], [], [], [], [], [(6, 77)], [], [], [], [], [], [], [], [], [], [(6, 74)], [], [], [], [], [(6, 75)], [], [], [], [], [(6, 76)], [], [], [], [], [(6, 126), (6, 128), (0, 28), (1, 33)], [], [], [], [], [], [], [], []]) rfl (by decide +kernel)
theorem am_y44 : am_okA am_M44 := am_mk (6, 114) (by decide +kernel) am_c44_0 (am_h0 rfl)
theorem am_c45_0 : am_okL "PebbleProofs$FailingPiles" "extend" am_M45.2.1 am_e45_0 := am_okL_of (Js := [[], [], [], [], [], [], [], [], [], [], [], [], [(6, 72)], [], [], [], [], [], [], [], [], [(6, 79)], [], [], [], [], [], [], [], [], [(6, 130), (6, 132), (0, 29), (1, 33)], [], [], [], [], [], [], [], [(6, 134), (6, 136), (0, 30), (1, 33)], [], [], [], [(6, 122), (6, 124), (0, 27), (1, 33)], [], [], [], [], [], [], [], [], [(6, 138), (6, 139), (6, 140), (1, 33)], [], [], [], [], [], [], [], []]) rfl (by decide +kernel)
theorem am_y45 : am_okA am_M45 := am_mk (6, 129) (by decide +kernel) am_c45_0 (am_h0 rfl)
theorem am_c46_0 : am_okL "PebbleProofs$FailingPiles" "fails" am_M46.2.1 am_e46_0 := am_okL_of (Js := [[], [], [], [], [(6, 72)], [], [], [], [], [(6, 138), (6, 139), (6, 140), (1, 33)], [], [], [], [], [], [(6, 142), (6, 144), (0, 31), (1, 33)], [], [], [], [], [], [], []]) rfl (by decide +kernel)
theorem am_y46 : am_okA am_M46 := am_mk (6, 137) (by decide +kernel) am_c46_0 (am_h0 rfl)
theorem am_c47_0 : am_okL "PebbleProofs$FailingPiles" "failsAfterMoveFrom" am_M47.2.1 am_e47_0 := am_okL_of (Js := [[], [], [], [(6, 79)], [], [], [], [], [], [], [], [], [], [(6, 72)], [], [], [(6, 80)], [], [], [], [], [], [], [], [], [], [], [(6, 130), (6, 132), (0, 29), (1, 33)], [], [], [], [], [], [(6, 79)], [], [], [], [], [(6, 146), (6, 148), (0, 32), (1, 33)], [], [], [], [], [], [], []]) rfl (by decide +kernel)
theorem am_y47 : am_okA am_M47 := am_mk (6, 145) (by decide +kernel) am_c47_0 (am_h0 rfl)
theorem am_c48_0 : am_okL "PebbleProofs$History" "<init>" am_M48.2.1 am_e48_0 := am_okL_of (Js := [[], [(1, 93), (1, 40), (1, 41)], [], [], [(1, 94)], [(1, 96)], []]) rfl (by decide +kernel)
theorem am_y48 : am_okA am_M48 := am_mk (1, 92) (by decide +kernel) am_c48_0 (am_h0 rfl)
theorem am_c49_0 : am_okL "PebbleProofs$History" "forget" am_M49.2.1 am_e49_0 := am_okL_of (Js := [[], [], [(1, 98)], []]) rfl (by decide +kernel)
theorem am_y49 : am_okA am_M49 := am_mk (5, 98) (by decide +kernel) am_c49_0 (am_h0 rfl)
theorem am_c50_0 : am_okL "PebbleProofs$History" "keep" am_M50.2.1 am_e50_0 := am_okL_of (Js := [[], [(1, 98)], [], [], [], [], [(1, 97)], [], [], [], [], [(1, 97)], [], [], [(1, 98)], [], [], [(1, 98)], [], [(1, 97)], [], [(1, 98)], [], [], [], [], [], [(1, 96)], [], [], [], [], [], [(1, 94), (1, 43), (1, 2)], [], [(5, 159), (1, 45), (1, 2)], [], [], [(1, 96)], [], [], [], [], [], [(5, 160), (2, 140), (2, 141), (1, 2)], [], [], [(1, 98)], [], [], [(1, 98)], []]) rfl (by decide +kernel)
theorem am_y50 : am_okA am_M50 := am_mk (5, 158) (by decide +kernel) am_c50_0 (am_h0 rfl)
theorem am_c51_0 : am_okL "PebbleProofs$History" "bringBack" am_M51.2.1 am_e51_0 := am_okL_of (Js := [[], [], [(1, 98)], [], [], [(1, 98)], [], [(1, 96)], [], [(1, 97)], [], [(1, 98)], [], [], [], [], [], [], [], [], [], [(5, 160), (2, 140), (2, 141), (1, 2)], []]) rfl (by decide +kernel)
theorem am_y51 : am_okA am_M51 := am_mk (5, 177) (by decide +kernel) am_c51_0 (am_h0 rfl)
theorem am_c52_0 : am_okL "PebbleProofs$Outlook" "<init>" am_M52.2.1 am_e52_0 := am_okL_of (Js := [[], [(1, 144), (1, 40), (1, 41)], [], [], [], [(1, 145)], [], [], [], [(1, 146)], [], [], [], [(1, 147)], []]) rfl (by decide +kernel)
theorem am_y52 : am_okA am_M52 := am_mk (1, 143) (by decide +kernel) am_c52_0 (am_h0 rfl)
theorem am_c62_0 : am_okL "PebbleProofs$SetupText" "<init>" am_M62.2.1 am_e62_0 := am_okL_of (Js := [[], [(1, 112), (1, 40), (1, 41)], [], [], [], [(1, 115)], [], [(1, 113), (1, 43), (1, 2)], [], [(1, 114), (1, 45), (1, 2)], [(1, 118)], []]) rfl (by decide +kernel)
theorem am_y62 : am_okA am_M62 := am_mk (1, 111) (by decide +kernel) am_c62_0 (am_h0 rfl)
theorem am_c63_0 : am_okL "PebbleProofs$SetupText" "bytesIn" am_M63.2.1 am_e63_0 := am_okL_of (Js := [[], [], [], [], [], [], [], [], [], [], [], [], [], [], [], [], []]) rfl (by decide +kernel)
theorem am_y63 : am_okA am_M63 := am_mk (5, 120) (by decide +kernel) am_c63_0 (am_h0 rfl)
theorem am_c64_0 : am_okL "PebbleProofs$SetupText" "addBytes" am_M64.2.1 am_e64_0 := am_okL_of (Js := [[], [], [], [], [], [], [], [], [], [], [], [], [], [(1, 117)], [], [], [], [(1, 115)], [], [(1, 117)], [], [], [], [], [(1, 117)], [], [], [(1, 117)], [], [], []]) rfl (by decide +kernel)
theorem am_y64 : am_okA am_M64 := am_mk (5, 140) (by decide +kernel) am_c64_0 (am_h0 rfl)
theorem am_c65_0 : am_okL "PebbleProofs$SetupText" "endOfRun" am_M65.2.1 am_e65_0 := am_okL_of (Js := [[], [(1, 121)], [], [], [], [(1, 117)], [], [], [(1, 115)], [], [], [], [], [], [(1, 115)], [], [], [], [], [], [], [], []]) rfl (by decide +kernel)
theorem am_y65 : am_okA am_M65 := am_mk (2, 1) (by decide +kernel) am_c65_0 (am_h0 rfl)
theorem am_c66_0 : am_okL "PebbleProofs$SetupText" "readToken" am_M66.2.1 am_e66_0 := am_okL_of (Js := [[], [], [(1, 122)], [(1, 121)], [], [], [], [], [(1, 238), (2, 0), (0, 2), (1, 4)], [(1, 121)], [], [], [], [(1, 238), (2, 0), (0, 2), (1, 4)], [], [], [], [], [(1, 238), (2, 0), (0, 2), (1, 4)], [], [], [], [], [(2, 2), (2, 3), (1, 12), (2, 4)], [(1, 122)], [], [(1, 121)], [], [(1, 117)], [], [], [], [(1, 120)], [], [], [], [(1, 121)], [], [], [], [(1, 120)], [], [], [], [(1, 121)], [], [], [], [(1, 120)], [], [], [(2, 5), (2, 7), (0, 3), (1, 4)], [(1, 123)], [], [], [], [(1, 120)], [], [], [(1, 115)]]) rfl (by decide +kernel)
theorem am_c66_1 : am_okL "PebbleProofs$SetupText" "readToken" am_M66.2.1 am_e66_1 := am_okL_of (Js := [[], [(1, 121)], [], [(1, 123)], [], [], [(1, 121)], [], [], [(1, 122)], []]) rfl (by decide +kernel)
theorem am_y66 : am_okA am_M66 := am_mk (1, 237) (by decide +kernel) (am_okL_app am_c66_0 am_c66_1) (am_h0 rfl)
theorem am_c67_0 : am_okL "PebbleProofs$SetupText" "numberRead" am_M67.2.1 am_e67_0 := am_okL_of (Js := [[], [(1, 122)], [], [(1, 121)], [], [], [], [], [], [], [], [], [(1, 121)], [], [], [], [(1, 122)], [], [], [], [], [], [(1, 115)], [], [], [], [], [], [], [], [], [], []]) rfl (by decide +kernel)
theorem am_y67 : am_okA am_M67 := am_mk (2, 8) (by decide +kernel) am_c67_0 (am_h0 rfl)
theorem am_c68_0 : am_okL "PebbleProofs$SetupText" "isWord" am_M68.2.1 am_e68_0 := am_okL_of (Js := [[], [(1, 120)], [], [], [], [(1, 122)], [], [(1, 121)], [], [], [(2, 18), (2, 19), (2, 20), (1, 13)], [], [], [], [], [], [], [], [(2, 18), (2, 19), (2, 20), (1, 13)], [], [], [(1, 115)], [], [(1, 121)], [], [], [], [], [], [(2, 28), (2, 29), (2, 30), (1, 13)], [], [], [], [], [], [], []]) rfl (by decide +kernel)
theorem am_y68 : am_okA am_M68 := am_mk (2, 17) (by decide +kernel) am_c68_0 (am_h0 rfl)
theorem am_c69_0 : am_okL "PebbleProofs$SetupText" "isNumber" am_M69.2.1 am_e69_0 := am_okL_of (Js := [[], [(1, 120)], [], [], [], [(1, 123)], [], [], [], [(1, 123)], [], [], [], [], [], []]) rfl (by decide +kernel)
theorem am_y69 : am_okA am_M69 := am_mk (2, 69) (by decide +kernel) am_c69_0 (am_h0 rfl)
theorem am_c70_0 : am_okL "PebbleProofs$SetupText" "isVertex" am_M70.2.1 am_e70_0 := am_okL_of (Js := [[], [], [], [(1, 118)], [(1, 51)], [], [], [(2, 66), (2, 68), (0, 6), (1, 4)], []]) rfl (by decide +kernel)
theorem am_y70 : am_okA am_M70 := am_mk (2, 87) (by decide +kernel) am_c70_0 (am_h0 rfl)
theorem am_c71_0 : am_okL "PebbleProofs$SetupText" "isSemicolon" am_M71.2.1 am_e71_0 := am_okL_of (Js := [[], [(1, 120)], [], [], [], [(1, 123)], [], [], [], [], [], []]) rfl (by decide +kernel)
theorem am_y71 : am_okA am_M71 := am_mk (2, 74) (by decide +kernel) am_c71_0 (am_h0 rfl)
theorem am_c72_0 : am_okL "PebbleProofs$SetupText" "check" am_M72.2.1 am_e72_0 := am_okL_of (Js := [[], [], [(1, 122)], [], [(1, 234), (1, 236), (0, 1), (1, 4)], [], [(2, 9), (2, 11), (0, 4), (1, 4)], [], [], [], [], [], [], [], [], [], [(2, 71), (2, 73), (0, 7), (1, 4)], [], [], [(1, 234), (1, 236), (0, 1), (1, 4)], [], [(2, 75), (2, 77), (0, 8), (1, 4)], [], [], [], [], [], [], [(1, 120)], [], [], [(1, 118)], [(2, 116), (2, 117), (2, 118), (1, 2)], [], [], [], [], [(1, 121)], []]) rfl (by decide +kernel)
theorem am_y72 : am_okA am_M72 := am_mk (1, 233) (by decide +kernel) am_c72_0 (am_h0 rfl)
theorem am_c73_0 : am_okL "PebbleProofs$SetupText" "readVertices" am_M73.2.1 am_e73_0 := am_okL_of (Js := [[], [(2, 13)], [(2, 14), (2, 16), (0, 5), (1, 4)], [], [], [], [], [(1, 234), (1, 236), (0, 1), (1, 4)], [], [], [], [(2, 66), (2, 68), (0, 6), (1, 4)], [], [], [], [], [(1, 118)], [], [(1, 123)], [(2, 70), (1, 170), (1, 171), (1, 2)], [], [(1, 234), (1, 236), (0, 1), (1, 4)], [], []]) rfl (by decide +kernel)
theorem am_y73 : am_okA am_M73 := am_mk (2, 12) (by decide +kernel) am_c73_0 (am_h0 rfl)
theorem am_c74_0 : am_okL "PebbleProofs$SetupText" "readStatement" am_M74.2.1 am_e74_0 := am_okL_of (Js := [[], [(2, 79)], [(2, 14), (2, 16), (0, 5), (1, 4)], [], [], [(2, 80), (2, 82), (0, 9), (1, 4)], [], [], [(2, 93)], [(2, 14), (2, 16), (0, 5), (1, 4)], [], [], [(2, 94), (2, 96), (0, 11), (1, 4)], [], [], [(2, 98)], [(2, 14), (2, 16), (0, 5), (1, 4)], [], [], [(2, 99), (2, 101), (0, 12), (1, 4)], [], [], [], [], []]) rfl (by decide +kernel)
theorem am_y74 : am_okA am_M74 := am_mk (2, 78) (by decide +kernel) am_c74_0 (am_h0 rfl)
theorem am_c75_0 : am_okL "PebbleProofs$SetupText" "readPath" am_M75.2.1 am_e75_0 := am_okL_of (Js := [[], [(1, 234), (1, 236), (0, 1), (1, 4)], [], [(2, 84), (2, 86), (0, 10), (1, 4)], [], [], [], [], [(1, 123)], [], [], [(1, 234), (1, 236), (0, 1), (1, 4)], [], [], [], [], [], [], [], [], [(1, 120)], [], [], [], [(2, 84), (2, 86), (0, 10), (1, 4)], [], [], [(1, 123)], [], [], [], [(1, 118)], [], [], [(1, 123)], [(2, 88), (2, 89), (2, 90), (1, 2)], [], [], [], [], [(1, 118)], [], [], [(1, 123)], [(2, 92), (1, 177), (1, 178), (1, 2)], [], [(1, 123)], [], [], [(1, 234), (1, 236), (0, 1), (1, 4)], [], [], [], []]) rfl (by decide +kernel)
theorem am_y75 : am_okA am_M75 := am_mk (2, 83) (by decide +kernel) am_c75_0 (am_h0 rfl)
theorem am_c76_0 : am_okL "PebbleProofs$SetupText" "readPile" am_M76.2.1 am_e76_0 := am_okL_of (Js := [[], [(1, 234), (1, 236), (0, 1), (1, 4)], [], [(2, 84), (2, 86), (0, 10), (1, 4)], [], [], [], [], [(1, 123)], [], [], [(1, 234), (1, 236), (0, 1), (1, 4)], [], [], [], [(2, 66), (2, 68), (0, 6), (1, 4)], [], [], [], [], [(1, 118)], [(1, 61)], [], [], [(1, 123)], [], [], [(1, 234), (1, 236), (0, 1), (1, 4)], [], []]) rfl (by decide +kernel)
theorem am_y76 : am_okA am_M76 := am_mk (2, 97) (by decide +kernel) am_c76_0 (am_h0 rfl)
theorem am_c77_0 : am_okL "PebbleProofs$SetupText" "readStrategy" am_M77.2.1 am_e77_0 := am_okL_of (Js := [[], [(1, 118)], [(1, 58)], [], [], [], [], [], [(1, 234), (1, 236), (0, 1), (1, 4)], [], [(2, 84), (2, 86), (0, 10), (1, 4)], [], [], [], [], [(1, 118)], [], [(1, 123)], [(2, 103), (2, 104), (2, 105), (1, 2)], [], [(1, 234), (1, 236), (0, 1), (1, 4)], [], [], [], [], [], [], [(1, 120)], [], [], [], [], [(1, 118)], [(1, 58)], [], [], [(2, 111), (2, 113), (0, 13), (1, 4)], [], [], [], [], [], [], []]) rfl (by decide +kernel)
theorem am_y77 : am_okA am_M77 := am_mk (2, 102) (by decide +kernel) am_c77_0 (am_h0 rfl)
theorem am_c78_0 : am_okL "PebbleProofs$SetupText" "readWeight" am_M78.2.1 am_e78_0 := am_okL_of (Js := [[], [(2, 84), (2, 86), (0, 10), (1, 4)], [], [], [(1, 123)], [], [(1, 118)], [(1, 65)], [], [], [], [], [], [], [(1, 123)], [], [], [(1, 234), (1, 236), (0, 1), (1, 4)], [], [(2, 84), (2, 86), (0, 10), (1, 4)], [], [], [], [], [(1, 123)], [], [], [(1, 234), (1, 236), (0, 1), (1, 4)], [], [], [], [(2, 66), (2, 68), (0, 6), (1, 4)], [], [], [], [], [(1, 118)], [], [], [], [], [(1, 123)], [(2, 115), (2, 108), (2, 109), (1, 2)], [], [(1, 234), (1, 236), (0, 1), (1, 4)], [], []]) rfl (by decide +kernel)
theorem am_y78 : am_okA am_M78 := am_mk (2, 114) (by decide +kernel) am_c78_0 (am_h0 rfl)
theorem am_c79_0 : am_okL "PebbleProofs" "<init>" am_M79.2.1 am_e79_0 := am_okL_of (Js := [[], [(1, 39), (1, 40), (1, 41)], [], [(1, 42), (1, 43), (1, 2)], [], [(1, 44), (1, 45), (1, 2)], [(1, 198)], [], [(1, 42), (1, 43), (1, 2)], [], [(1, 44), (1, 45), (1, 2)], [(1, 199)], [], [(1, 88), (1, 89), (1, 3)], [], [(1, 90), (1, 91), (1, 3)], [(1, 201)], [], [(1, 107), (1, 108), (1, 4)], [], [(1, 109), (1, 110), (1, 4)], [(1, 202)], [], [(1, 139), (1, 140), (1, 5)], [], [(1, 141), (1, 142), (1, 5)], [(1, 203)], [], [], [(1, 167)], [(1, 204)], [], [], [], [(1, 205)], [], [(1, 198)], [], [(1, 169), (1, 170), (1, 171), (1, 2)], [], [(1, 198)], [], [], [(1, 176), (1, 177), (1, 178), (1, 2)], [], [(1, 198)], [], [], [(1, 176), (1, 177), (1, 178), (1, 2)], [], [(1, 198)], [(1, 183), (1, 184), (1, 185), (1, 2)], [], [(1, 198)], [(1, 60)], [], [], [], []]) rfl (by decide +kernel)
theorem am_y79 : am_okA am_M79 := am_mk (1, 38) (by decide +kernel) am_c79_0 (am_h0 rfl)
end
section
/-! ===== the program is as the tables say, further ===== -/
theorem am_c80_0 : am_okL "PebbleProofs" "append" am_M80.2.1 am_e80_0 := am_okL_of (Js := [[], [(5, 118), (5, 119), (1, 4)], [], [(5, 118), (5, 119), (1, 4)], [], [], [(5, 118), (5, 119), (1, 4)], [], [], [(5, 118), (5, 119), (1, 4)], [], [], [(5, 118), (5, 119), (1, 4)], [], [], [], [(1, 202)], [(1, 116)], [], [], [], [], [(5, 121), (1, 10), (5, 130), (5, 131)], [], [(1, 202)], [], [(5, 137), (5, 138), (5, 139), (1, 4)], [], [(1, 202)], [], [(5, 137), (5, 138), (5, 139), (1, 4)], [], [(1, 202)], [], [(5, 137), (5, 138), (5, 139), (1, 4)], [], [(1, 202)], [], [(5, 137), (5, 138), (5, 139), (1, 4)], [], [(1, 202)], [], [(5, 137), (5, 138), (5, 139), (1, 4)], [], [(1, 202)], [(1, 116)], []]) rfl (by decide +kernel)
theorem am_y80 : am_okA am_M80 := am_mk (5, 117) (by decide +kernel) am_c80_0 (am_h0 rfl)
theorem am_c81_0 : am_okL "PebbleProofs" "truncate" am_M81.2.1 am_e81_0 := am_okL_of (Js := [[], [], [], [], [(1, 202)], [(1, 116)], [], [(5, 52), (1, 19), (5, 107), (5, 54)], [], [(1, 202)], [], [(1, 116)], [], []]) rfl (by decide +kernel)
theorem am_y81 : am_okA am_M81 := am_mk (5, 106) (by decide +kernel) am_c81_0 (am_h0 rfl)
theorem am_c82_0 : am_okL "PebbleProofs" "errorPosition" am_M82.2.1 am_e82_0 := am_okL_of (Js := [[], [(1, 202)], [(1, 230), (1, 231), (1, 232), (1, 4)], []]) rfl (by decide +kernel)
theorem am_y82 : am_okA am_M82 := am_mk (1, 229) (by decide +kernel) am_c82_0 (am_h0 rfl)
theorem am_c83_0 : am_okL "PebbleProofs" "load" am_M83.2.1 am_e83_0 := am_okL_of (Js := [[], [(1, 202)], [(1, 230), (1, 231), (1, 232), (1, 4)], [], [], [(5, 52), (1, 19), (5, 94), (5, 54)], [], [(1, 198)], [], [(1, 202)], [(1, 119)], [(2, 139), (2, 140), (2, 141), (1, 2)], [], [(1, 198)], [(1, 183), (1, 184), (1, 185), (1, 2)], [], [(1, 201)], [(5, 95), (5, 96), (5, 97), (1, 3)], [], [], [(1, 200)], [], [], [(1, 206)], [], [(1, 202)], [], [(1, 116)], [], [(1, 198)], [(1, 50)], []]) rfl (by decide +kernel)
theorem am_y83 : am_okA am_M83 := am_mk (5, 93) (by decide +kernel) am_c83_0 (am_h0 rfl)
theorem am_c84_0 : am_okL "PebbleProofs" "addEdge" am_M84.2.1 am_e84_0 := am_okL_of (Js := [[], [], [], [(6, 18), (6, 20), (0, 24), (1, 1)], [], [(1, 198)], [], [], [(5, 2), (2, 89), (2, 90), (1, 2)], [], [], [], [(5, 150), (5, 152), (0, 21), (1, 1)], [], [(1, 201)], [], [(1, 198)], [(5, 155), (5, 156), (5, 157), (1, 3)], [], [(1, 198)], [], [], [(1, 176), (1, 177), (1, 178), (1, 2)], [], [(1, 198)], [(1, 183), (1, 184), (1, 185), (1, 2)], [], [(1, 198)], [(5, 32), (5, 33), (5, 34), (1, 2)], []]) rfl (by decide +kernel)
theorem am_y84 : am_okA am_M84 := am_mk (6, 17) (by decide +kernel) am_c84_0 (am_h0 rfl)
theorem am_c85_0 : am_okL "PebbleProofs" "removeEdge" am_M85.2.1 am_e85_0 := am_okL_of (Js := [[], [], [], [(6, 18), (6, 20), (0, 24), (1, 1)], [], [(1, 198)], [], [], [(5, 2), (2, 89), (2, 90), (1, 2)], [], [], [], [(5, 150), (5, 152), (0, 21), (1, 1)], [], [(1, 198)], [], [], [(6, 30), (6, 31), (6, 32), (1, 2)], [], [], [], [(5, 150), (5, 152), (0, 21), (1, 1)], [], [(1, 201)], [], [(1, 198)], [(5, 155), (5, 156), (5, 157), (1, 3)], [], [(1, 198)], [], [], [(6, 35), (6, 36), (6, 37), (1, 2)], [], [(1, 198)], [(1, 183), (1, 184), (1, 185), (1, 2)], [], [(1, 198)], [(5, 32), (5, 33), (5, 34), (1, 2)], []]) rfl (by decide +kernel)
theorem am_y85 : am_okA am_M85 := am_mk (6, 29) (by decide +kernel) am_c85_0 (am_h0 rfl)
theorem am_c86_0 : am_okL "PebbleProofs" "put" am_M86.2.1 am_e86_0 := am_okL_of (Js := [[], [], [(4, 222), (4, 224), (0, 19), (1, 1)], [], [], [], [], [], [], [], [(1, 198)], [(1, 60)], [], [], [], [], [], [], [(5, 52), (1, 19), (6, 46), (5, 54)], [], [(1, 201)], [], [(1, 198)], [(5, 155), (5, 156), (5, 157), (1, 3)], [], [(1, 198)], [(1, 60)], [], [], [], [], [], [], [], [(1, 198)], [(1, 60)], [], [], []]) rfl (by decide +kernel)
theorem am_y86 : am_okA am_M86 := am_mk (6, 45) (by decide +kernel) am_c86_0 (am_h0 rfl)
theorem am_c87_0 : am_okL "PebbleProofs" "take" am_M87.2.1 am_e87_0 := am_okL_of (Js := [[], [], [(4, 222), (4, 224), (0, 19), (1, 1)], [], [], [], [], [], [], [(5, 52), (1, 19), (6, 46), (5, 54)], [], [(1, 198)], [(1, 60)], [], [], [], [], [], [], [(5, 150), (5, 152), (0, 21), (1, 1)], [], [(1, 201)], [], [(1, 198)], [(5, 155), (5, 156), (5, 157), (1, 3)], [], [(1, 198)], [(1, 60)], [], [], [], [], [], [], [], [(1, 198)], [(1, 60)], [], [], []]) rfl (by decide +kernel)
theorem am_y87 : am_okA am_M87 := am_mk (6, 53) (by decide +kernel) am_c87_0 (am_h0 rfl)
theorem am_c88_0 : am_okL "PebbleProofs" "move" am_M88.2.1 am_e88_0 := am_okL_of (Js := [[], [], [(4, 222), (4, 224), (0, 19), (1, 1)], [], [], [(4, 222), (4, 224), (0, 19), (1, 1)], [], [(1, 198)], [], [], [(5, 2), (2, 89), (2, 90), (1, 2)], [], [], [], [(5, 150), (5, 152), (0, 21), (1, 1)], [], [(1, 198)], [(1, 60)], [], [], [], [], [], [], [(5, 150), (5, 152), (0, 21), (1, 1)], [], [(1, 198)], [(1, 60)], [], [], [], [], [], [], [(5, 150), (5, 152), (0, 21), (1, 1)], [], [(1, 201)], [], [(1, 198)], [(5, 155), (5, 156), (5, 157), (1, 3)], [], [(1, 198)], [], [], [(5, 161), (5, 162), (5, 163), (1, 2)], [], [(1, 198)], [(1, 60)], [], [], []]) rfl (by decide +kernel)
theorem am_y88 : am_okA am_M88 := am_mk (5, 149) (by decide +kernel) am_c88_0 (am_h0 rfl)
theorem am_c89_0 : am_okL "PebbleProofs" "reach" am_M89.2.1 am_e89_0 := am_okL_of (Js := [[], [], [(4, 222), (4, 224), (0, 19), (1, 1)], [], [], [(6, 61), (6, 63), (0, 25), (1, 1)], [], [], [], [(1, 198)], [(1, 60)], [(6, 150), (6, 151), (6, 152), (1, 33)], [], [], [], [(5, 150), (5, 152), (0, 21), (1, 1)], [], [(1, 201)], [], [(1, 198)], [(5, 155), (5, 156), (5, 157), (1, 3)], [], [], [], [(1, 198)], [(1, 60)], [], [], [], [], [], [], [], [], [(6, 154), (6, 156), (0, 33), (1, 1)], [], [], [], [], [], [], [(1, 198)], [], [], [], [], [], [], [(5, 161), (5, 162), (5, 163), (1, 2)], [], [], [], []]) rfl (by decide +kernel)
theorem am_y89 : am_okA am_M89 := am_mk (6, 60) (by decide +kernel) am_c89_0 (am_h0 rfl)
theorem am_c90_0 : am_okL "PebbleProofs" "addStrategy" am_M90.2.1 am_e90_0 := am_okL_of (Js := [[], [], [(4, 222), (4, 224), (0, 19), (1, 1)], [], [(1, 198)], [(1, 57)], [], [], [], [], [(5, 150), (5, 152), (0, 21), (1, 1)], [], [(1, 201)], [], [(1, 198)], [(5, 155), (5, 156), (5, 157), (1, 3)], [], [(1, 198)], [], [(6, 174), (2, 104), (2, 105), (1, 2)], [], [(1, 198)], [(1, 57)], [], [], []]) rfl (by decide +kernel)
theorem am_y90 : am_okA am_M90 := am_mk (6, 173) (by decide +kernel) am_c90_0 (am_h0 rfl)
theorem am_c91_0 : am_okL "PebbleProofs" "weigh" am_M91.2.1 am_e91_0 := am_okL_of (Js := [[], [], [(5, 71), (5, 73), (0, 20), (1, 1)], [], [], [(4, 222), (4, 224), (0, 19), (1, 1)], [], [], [(4, 222), (4, 224), (0, 19), (1, 1)], [], [], [], [], [], [], [], [(1, 198)], [(1, 64)], [], [], [], [(5, 52), (1, 19), (6, 182), (5, 54)], [], [(1, 201)], [], [(1, 198)], [(5, 155), (5, 156), (5, 157), (1, 3)], [], [(1, 198)], [], [], [(5, 76), (5, 77), (5, 78), (1, 2)], [], [], [(1, 198)], [], [], [], [], [(6, 183), (2, 108), (2, 109), (1, 2)], [], []]) rfl (by decide +kernel)
theorem am_y91 : am_okA am_M91 := am_mk (6, 181) (by decide +kernel) am_c91_0 (am_h0 rfl)
theorem am_c92_0 : am_okL "PebbleProofs" "dropStrategy" am_M92.2.1 am_e92_0 := am_okL_of (Js := [[], [], [(5, 71), (5, 73), (0, 20), (1, 1)], [], [(1, 201)], [], [(1, 198)], [(5, 155), (5, 156), (5, 157), (1, 3)], [], [(1, 198)], [], [(6, 191), (6, 192), (6, 193), (1, 2)], [], [(1, 198)], [(1, 57)], []]) rfl (by decide +kernel)
theorem am_y92 : am_okA am_M92 := am_mk (6, 190) (by decide +kernel) am_c92_0 (am_h0 rfl)
theorem am_c93_0 : am_okL "PebbleProofs" "undo" am_M93.2.1 am_e93_0 := am_okL_of (Js := [[], [(1, 201)], [(1, 99)], [], [(5, 121), (1, 10), (5, 173), (5, 131)], [], [(1, 201)], [], [(1, 198)], [(5, 174), (5, 175), (5, 176), (1, 3)], [], [(1, 201)], [(1, 99)], []]) rfl (by decide +kernel)
theorem am_y93 : am_okA am_M93 := am_mk (5, 172) (by decide +kernel) am_c93_0 (am_h0 rfl)
theorem am_c94_0 : am_okL "PebbleProofs" "undoCount" am_M94.2.1 am_e94_0 := am_okL_of (Js := [[], [(1, 201)], [(1, 99)], []]) rfl (by decide +kernel)
theorem am_y94 : am_okA am_M94 := am_mk (2, 134) (by decide +kernel) am_c94_0 (am_h0 rfl)
theorem am_c95_0 : am_okL "PebbleProofs" "save" am_M95.2.1 am_e95_0 := am_okL_of (Js := [[], [(1, 199)], [], [(1, 198)], [(2, 139), (2, 140), (2, 141), (1, 2)], [], [], [(1, 200)], [], [(1, 198)], [(1, 50)], []]) rfl (by decide +kernel)
theorem am_y95 : am_okA am_M95 := am_mk (2, 138) (by decide +kernel) am_c95_0 (am_h0 rfl)
theorem am_c96_0 : am_okL "PebbleProofs" "restore" am_M96.2.1 am_e96_0 := am_okL_of (Js := [[], [(1, 200)], [], [(5, 121), (1, 10), (5, 185), (5, 131)], [], [(1, 198)], [], [(1, 199)], [(2, 139), (2, 140), (2, 141), (1, 2)], [], [(1, 201)], [(5, 95), (5, 96), (5, 97), (1, 3)], [], [(1, 198)], [(1, 50)], []]) rfl (by decide +kernel)
theorem am_y96 : am_okA am_M96 := am_mk (5, 184) (by decide +kernel) am_c96_0 (am_h0 rfl)
theorem am_c97_0 : am_okL "PebbleProofs" "reason" am_M97.2.1 am_e97_0 := am_okL_of (Js := [[], [(1, 206)], []]) rfl (by decide +kernel)
theorem am_y97 : am_okA am_M97 := am_mk (2, 149) (by decide +kernel) am_c97_0 (am_h0 rfl)
theorem am_c98_0 : am_okL "PebbleProofs" "count" am_M98.2.1 am_e98_0 := am_okL_of (Js := [[], [], [], [(1, 198)], [(1, 50)], [], [], [(1, 198)], [(5, 32), (5, 33), (5, 34), (1, 2)], [], [], [(1, 198)], [(5, 42), (5, 43), (5, 44), (1, 2)], [], [], [(1, 198)], [(1, 55)], [], [], [(1, 198)], [(1, 57)], [], [], [(1, 198)], [(5, 46), (5, 47), (5, 48), (1, 2)], [], [(5, 52), (1, 19), (5, 53), (5, 54)]]) rfl (by decide +kernel)
theorem am_y98 : am_okA am_M98 := am_mk (5, 31) (by decide +kernel) am_c98_0 (am_h0 rfl)
theorem am_c99_0 : am_okL "PebbleProofs" "isEdge" am_M99.2.1 am_e99_0 := am_okL_of (Js := [[], [], [(4, 222), (4, 224), (0, 19), (1, 1)], [], [], [(4, 222), (4, 224), (0, 19), (1, 1)], [], [(1, 198)], [], [], [(5, 2), (2, 89), (2, 90), (1, 2)], []]) rfl (by decide +kernel)
theorem am_y99 : am_okA am_M99 := am_mk (4, 221) (by decide +kernel) am_c99_0 (am_h0 rfl)
theorem am_c100_0 : am_okL "PebbleProofs" "distance" am_M100.2.1 am_e100_0 := am_okL_of (Js := [[], [], [(4, 222), (4, 224), (0, 19), (1, 1)], [], [], [(4, 222), (4, 224), (0, 19), (1, 1)], [], [(1, 198)], [], [], [(5, 7), (5, 8), (5, 9), (1, 2)], []]) rfl (by decide +kernel)
theorem am_y100 : am_okA am_M100 := am_mk (5, 6) (by decide +kernel) am_c100_0 (am_h0 rfl)
theorem am_c102_0 : am_okL "PebbleProofs" "pebbles" am_M102.2.1 am_e102_0 := am_okL_of (Js := [[], [], [(4, 222), (4, 224), (0, 19), (1, 1)], [], [(1, 198)], [(1, 60)], [], [], []]) rfl (by decide +kernel)
theorem am_y102 : am_okA am_M102 := am_mk (5, 15) (by decide +kernel) am_c102_0 (am_h0 rfl)
theorem am_c115_0 : am_okL "PebbleProofs" "strategy" am_M115.2.1 am_e115_0 := am_okL_of (Js := [[], [], [(5, 71), (5, 73), (0, 20), (1, 1)], [], [], [(4, 222), (4, 224), (0, 19), (1, 1)], [], [], [], [(1, 198)], [(1, 64)], [], [], [], [], [(1, 198)], [], [], [(5, 76), (5, 77), (5, 78), (1, 2)], [], [], [(1, 198)], [], [], [(5, 80), (5, 81), (5, 82), (1, 2)], [], [(5, 52), (1, 19), (5, 84), (5, 54)]]) rfl (by decide +kernel)
theorem am_y115 : am_okA am_M115 := am_mk (5, 70) (by decide +kernel) am_c115_0 (am_h0 rfl)
theorem am_c124_0 : am_okL "PebbleProofs" "needVertex" am_M124.2.1 am_e124_0 := am_okL_of (Js := [[], [], [], [], [(1, 198)], [(1, 50)], [], [(4, 226), (1, 20), (4, 235), (4, 236)], []]) rfl (by decide +kernel)
theorem am_y124 : am_okA am_M124 := am_mk (4, 225) (by decide +kernel) am_c124_0 (am_h0 rfl)
theorem am_c125_0 : am_okL "PebbleProofs" "needTwoVertices" am_M125.2.1 am_e125_0 := am_okL_of (Js := [[], [], [(4, 222), (4, 224), (0, 19), (1, 1)], [], [], [(4, 222), (4, 224), (0, 19), (1, 1)], [], [], [], [(5, 52), (1, 19), (6, 22), (5, 54)], []]) rfl (by decide +kernel)
theorem am_y125 : am_okA am_M125 := am_mk (6, 21) (by decide +kernel) am_c125_0 (am_h0 rfl)
theorem am_c126_0 : am_okL "PebbleProofs" "needStrategy" am_M126.2.1 am_e126_0 := am_okL_of (Js := [[], [], [], [], [(1, 198)], [(1, 57)], [], [(4, 226), (1, 20), (5, 75), (4, 236)], []]) rfl (by decide +kernel)
theorem am_y126 : am_okA am_M126 := am_mk (5, 74) (by decide +kernel) am_c126_0 (am_h0 rfl)
theorem am_c128_0 : am_okL "PebbleProofs" "refuse" am_M128.2.1 am_e128_0 := am_okL_of (Js := [[], [], [(1, 206)], [(5, 121), (1, 10), (5, 154), (5, 131)]]) rfl (by decide +kernel)
theorem am_y128 : am_okA am_M128 := am_mk (5, 153) (by decide +kernel) am_c128_0 (am_h0 rfl)
theorem am_c129_0 : am_okL "PebbleProofs" "failingPilesOf" am_M129.2.1 am_e129_0 := am_okL_of (Js := [[], [(1, 204)], [], [], [], [], [], [(1, 167), (6, 65), (1, 33)], [], [], [(6, 66), (6, 67), (1, 33)], [], [], [(1, 204)], [], [], [], [], [], [(1, 198)], [(6, 107), (6, 108), (6, 109), (1, 33)], [], [], [], [(1, 198)], [], [(1, 205)], [(6, 111), (6, 112), (6, 113), (1, 33)], [], []]) rfl (by decide +kernel)
theorem am_y129 : am_okA am_M129 := am_mk (6, 64) (by decide +kernel) am_c129_0 (am_h0 rfl)
theorem am_c130_0 : am_okL "PebbleProofs" "firstMove" am_M130.2.1 am_e130_0 := am_okL_of (Js := [[], [], [], [], [(1, 198)], [(1, 50)], [], [], [], [], [], [(1, 198)], [(1, 50)], [], [], [(1, 198)], [], [], [(6, 158), (6, 159), (6, 160), (1, 2)], [], [], [], [], [], [(6, 163), (6, 165), (0, 34), (1, 1)], [], [], [], [], [], [], [], [], [], [], [], [], []]) rfl (by decide +kernel)
theorem am_y130 : am_okA am_M130 := am_mk (6, 157) (by decide +kernel) am_c130_0 (am_h0 rfl)
theorem am_c131_0 : am_okL "PebbleProofs" "failsAfter" am_M131.2.1 am_e131_0 := am_okL_of (Js := [[], [(1, 198)], [(1, 60)], [], [], [], [], [], [], [], [(1, 198)], [(1, 60)], [], [], [], [], [], [], [], [], [(1, 198)], [(1, 60)], [(6, 150), (6, 151), (6, 152), (1, 33)], [], [], [(1, 198)], [(1, 60)], [], [], [], [], [], [], [], [(1, 198)], [(1, 60)], [], [], [], [], [], [], [], []]) rfl (by decide +kernel)
theorem am_y131 : am_okA am_M131 := am_mk (6, 166) (by decide +kernel) am_c131_0 (am_h0 rfl)
theorem am_c253_0 : am_okL "java/lang/Integer" "bitCount" am_M253.2.1 am_e253_0 := am_okL_of (Js := [[], [], [], [], [(2, 127)], [], [], [], [], [(2, 128)], [], [], [], [], [(2, 128)], [], [], [], [], [], [], [], [], [(2, 129)], [], [], [], [], [], [], [], [], [], [], [], [], [], [], [], [], [], []]) rfl (by decide +kernel)
theorem am_y253 : am_okA am_M253 := am_mk (2, 126) (by decide +kernel) am_c253_0 (am_h0 rfl)
theorem am_c254_0 : am_okL "java/lang/Long" "bitCount" am_M254.2.1 am_e254_0 := am_okL_of (Js := [[], [], [], [], [(5, 39)], [], [], [], [], [(5, 40)], [], [], [], [], [(5, 40)], [], [], [], [], [], [], [], [], [(5, 41)], [], [], [], [], [], [], [], [], [], [], [], [], [], [], [], [], [], [], [], [], [], [], [], [], []]) rfl (by decide +kernel)
theorem am_y254 : am_okA am_M254 := am_mk (5, 38) (by decide +kernel) am_c254_0 (am_h0 rfl)
theorem am_c255_0 : am_okL "java/lang/String" "length" am_M255.2.1 am_e255_0 := am_okL_of (Js := [[], [(4, 169)], [], [], [(2, 22), (2, 23), (2, 24), (1, 13)], [], []]) rfl (by decide +kernel)
theorem am_y255 : am_okA am_M255 := am_mk (2, 21) (by decide +kernel) am_c255_0 (am_h0 rfl)
theorem am_c256_0 : am_okL "java/lang/String" "charAt" am_M256.2.1 am_e256_0 := am_okL_of (Js := [[], [(2, 32), (2, 33), (2, 34), (1, 13)], [], [], [(4, 169)], [], [(2, 36), (2, 37), (1, 14)], [], [], [(4, 169)], [], [], []]) rfl (by decide +kernel)
theorem am_y256 : am_okA am_M256 := am_mk (2, 31) (by decide +kernel) am_c256_0 (am_h0 rfl)
theorem am_c257_0 : am_okL "java/lang/String" "coder" am_M257.2.1 am_e257_0 := am_okL_of (Js := [[(2, 26)], [], [], [(4, 170)], [], [], []]) rfl (by decide +kernel)
theorem am_y257 : am_okA am_M257 := am_mk (2, 25) (by decide +kernel) am_c257_0 (am_h0 rfl)
theorem am_c258_0 : am_okL "java/lang/String" "isLatin1" am_M258.2.1 am_e258_0 := am_okL_of (Js := [[(2, 26)], [], [], [(4, 170)], [], [], [], [], []]) rfl (by decide +kernel)
theorem am_y258 : am_okA am_M258 := am_mk (2, 35) (by decide +kernel) am_c258_0 (am_h0 rfl)
theorem am_c259_0 : am_okL "java/lang/String" "checkIndex" am_M259.2.1 am_e259_0 := am_okL_of (Js := [[], [], [(2, 42)], [(2, 44), (2, 45), (1, 15)], [], []]) rfl (by decide +kernel)
theorem am_y259 : am_okA am_M259 := am_mk (2, 41) (by decide +kernel) am_c259_0 (am_h0 rfl)
theorem am_c260_0 : am_okL "java/lang/StringLatin1" "charAt" am_M260.2.1 am_e260_0 := am_okL_of (Js := [[], [], [], [(2, 39), (2, 40), (1, 13)], [], [], [], [], [], [], []]) rfl (by decide +kernel)
theorem am_y260 : am_okA am_M260 := am_mk (2, 38) (by decide +kernel) am_c260_0 (am_h0 rfl)
theorem am_c261_0 : am_okL "java/util/Arrays" "fill" am_M261.2.1 am_e261_0 := am_okL_of (Js := [[], [], [], [], [], [], [], [], [], [], [], [], [], [], []]) rfl (by decide +kernel)
theorem am_y261 : am_okA am_M261 := am_mk (1, 175) (by decide +kernel) am_c261_0 (am_h0 rfl)
theorem am_c262_0 : am_okL "jdk/internal/util/Preconditions" "checkIndex" am_M262.2.1 am_e262_0 := am_okL_of (Js := [[], [], [], [], [], [], [], [], [], [], [], []]) rfl (by decide +kernel)
theorem am_y262 : am_okA am_M262 := am_mk (2, 46) (by decide +kernel) am_c262_0 (am_h0 rfl)
theorem am_c300_0 : am_okL "PebbleProofsLaw$Why" "<init>" am_M300.2.1 am_e300_0 := am_okL_of (Js := [[], [(2, 155), (1, 40), (1, 41)], []]) rfl (by decide +kernel)
theorem am_y300 : am_okA am_M300 := am_mk (2, 154) (by decide +kernel) am_c300_0 (am_h0 rfl)
theorem am_c301_0 : am_okL "PebbleProofsLaw$Why" "refuses" am_M301.2.1 am_e301_0 := am_okL_of (Js := [[], [], [(2, 156)], [(5, 201)], []]) rfl (by decide +kernel)
theorem am_y301 : am_okA am_M301 := am_mk (5, 200) (by decide +kernel) am_c301_0 (am_h0 rfl)
theorem am_c302_0 : am_okL "PebbleProofsLaw$Yard" "<init>" am_M302.2.1 am_e302_0 := am_okL_of (Js := [[], [(2, 169), (1, 40), (1, 41)], [], [(2, 170), (2, 171), (1, 24)], [], [(2, 172), (2, 173), (1, 24)], [(2, 209)], [], [], [], [(2, 211)], [], [], [(2, 212)], [], [], [], [(2, 213)], [], [], [(2, 201)], [], [], [], [(2, 199)], [(2, 203)], [], [], [], [(2, 205)], []]) rfl (by decide +kernel)
theorem am_y302 : am_okA am_M302 := am_mk (2, 168) (by decide +kernel) am_c302_0 (am_h0 rfl)
theorem am_c303_0 : am_okL "PebbleProofsLaw$Yard" "<init>" am_M303.2.1 am_e303_0 := am_okL_of (Js := [[], [], [(2, 201)], [(2, 166), (2, 167), (1, 21)], [], [], [], [], [(2, 201)], [], [], [(2, 203)], [], [], [], [], [(2, 203)], [], [], [], [], [(2, 201)], [(2, 232), (2, 145), (2, 144), (1, 11)], [], [], [], [(2, 205)], [], [], [(2, 205)], [], [], [(2, 201)], [(2, 232), (2, 145), (2, 144), (1, 11)], [], [], [(2, 207)], [(2, 207)], [], [(2, 209)], [(2, 233), (2, 234), (2, 235), (1, 24)], [], [], [(3, 17), (3, 21), (3, 23), (1, 30), (3, 19), (3, 18), (3, 24), (3, 22), (3, 20)], [], [], [(3, 27), (3, 30), (3, 32), (1, 30), (3, 29), (3, 28), (3, 33), (3, 31), (3, 20)], [(3, 104)], [], [], [(2, 209)], [], [(3, 105), (3, 106), (3, 107), (3, 108), (3, 109), (3, 110)], [(3, 104)], [(3, 111), (3, 112), (3, 113), (1, 24)], [], [], []]) rfl (by decide +kernel)
theorem am_y303 : am_okA am_M303 := am_mk (2, 165) (by decide +kernel) am_c303_0 (am_h0 rfl)
theorem am_c304_0 : am_okL "PebbleProofsLaw$Yard" "turn" am_M304.2.1 am_e304_0 := am_okL_of (Js := [[], [(2, 203)], [], [], [], [], [(2, 203)], [], [], [], [], [], [], [], [], [], [], [(2, 203)], [], [], [], [], [(2, 203)], [], [], [], [], [], [], [], [], [], [], [], [(2, 212)], []]) rfl (by decide +kernel)
theorem am_y304 : am_okA am_M304 := am_mk (3, 177) (by decide +kernel) am_c304_0 (am_h0 rfl)
theorem am_c305_0 : am_okL "PebbleProofsLaw$Yard" "edges" am_M305.2.1 am_e305_0 := am_okL_of (Js := [[], [], [], [], [], [], [(2, 201)], [], [], [], [], [], [], [], [], [(2, 203)], [], [], [], [], [], [], [], [], [], [], [], [], [], [], [], []]) rfl (by decide +kernel)
theorem am_y305 : am_okA am_M305 := am_mk (5, 19) (by decide +kernel) am_c305_0 (am_h0 rfl)
theorem am_c306_0 : am_okL "PebbleProofsLaw$Yard" "distances" am_M306.2.1 am_e306_0 := am_okL_of (Js := [[], [(2, 201)], [], [(2, 201)], [(4, 215)], [], [], [], [], [], [(2, 201)], [], [], [], [], [], [(2, 201)], [], [], [], [], [], [], [], [], [], [], [], [(2, 203)], [], [], [], [], [], [], [], [], [], [], [], [], [], [], [], [], [], [(2, 201)], [], [], [], [], [], [(2, 201)], [], [], [], [], [], [(2, 201)], []]) rfl (by decide +kernel)
theorem am_c306_1 : am_okL "PebbleProofsLaw$Yard" "distances" am_M306.2.1 am_e306_1 := am_okL_of (Js := [[], [], [], [], [], [], [], [], [], [], [], [], [], [], [], [], [], [], [], [], [(4, 217), (3, 165), (1, 12), (3, 166)], [], [], [], [], [], [], [], [], []]) rfl (by decide +kernel)
theorem am_y306 : am_okA am_M306 := am_mk (4, 214) (by decide +kernel) (am_okL_app am_c306_0 am_c306_1) (am_h0 rfl)
theorem am_c307_0 : am_okL "PebbleProofsLaw$Yard" "isConnected" am_M307.2.1 am_e307_0 := am_okL_of (Js := [[], [(4, 211), (4, 212), (4, 213), (1, 21)], [], [], [], [], [], [], [], [], [], [], [], [], [], [], [], [], [], [], [], [], [], [], [], []]) rfl (by decide +kernel)
theorem am_y307 : am_okA am_M307 := am_mk (5, 207) (by decide +kernel) am_c307_0 (am_h0 rfl)
theorem am_c308_0 : am_okL "PebbleProofsLaw$Yard" "plain" am_M308.2.1 am_e308_0 := am_okL_of (Js := [[(3, 173), (2, 162), (1, 21)], [], [], [(2, 166), (2, 167), (1, 21)], [], [], [], [], [(3, 174), (3, 175), (3, 176), (1, 21)], [], [], [], [(3, 174), (3, 175), (3, 176), (1, 21)], [], [(2, 205)], [], [], [], [], []]) rfl (by decide +kernel)
theorem am_y308 : am_okA am_M308 := am_mk (3, 172) (by decide +kernel) am_c308_0 (am_h0 rfl)
theorem am_c309_0 : am_okL "PebbleProofsLaw$Yard" "drawn" am_M309.2.1 am_e309_0 := am_okL_of (Js := [[], [], [(3, 181)], [(3, 182), (3, 183), (1, 0)], [], [(3, 173), (2, 162), (1, 21)], [], [], [], [], [], [], [(2, 166), (2, 167), (1, 21)], [], [], [], [], [], [(2, 201)], [], [], [], [], [], [], [], [], [], [], [], [], [], [], [(3, 182), (3, 183), (1, 0)], [(3, 174), (3, 175), (3, 176), (1, 21)], [], [], [], [], [], [], [(2, 201)], [], [], [], [], [], [], [], [(2, 203)], [], [], [], [], [], [], [(2, 201)], [], [], []]) rfl (by decide +kernel)
theorem am_c309_1 : am_okL "PebbleProofsLaw$Yard" "drawn" am_M309.2.1 am_e309_1 := am_okL_of (Js := [[], [], [], [], [], [], [(3, 182), (3, 183), (1, 0)], [], [], [], [], [], [], [], [], [], [], [(3, 182), (3, 183), (1, 0)], [], [], [], [], [(3, 174), (3, 175), (3, 176), (1, 21)], [], [], [], [], [], [], [], [], [(2, 201)], [], [], [(2, 205)], [], [], [], [], [], [], [], [], [], [], [], [], [(3, 182), (3, 183), (1, 0)], [], [], [], [], [], [], [], [], [], [], [], []]) rfl (by decide +kernel)
theorem am_c309_2 : am_okL "PebbleProofsLaw$Yard" "drawn" am_M309.2.1 am_e309_2 := am_okL_of (Js := [[], [], [], [], [], [(2, 201)], [(3, 182), (3, 183), (1, 0)], [], [], [], [], [], [], [], [], [], [], [], [], [], [], [], [], [], [], [], [], [], [], [], [], [], [(2, 201)], [], [], [], [], [], [], [], [(3, 189)], [(3, 182), (3, 183), (1, 0)], [], [], [], [], [], [], [], [], [], [], [], [], [], [], [(2, 203)], [], [], []]) rfl (by decide +kernel)
theorem am_c309_3 : am_okL "PebbleProofsLaw$Yard" "drawn" am_M309.2.1 am_e309_3 := am_okL_of (Js := [[], [], [], [], [], [], [], [], [], [], [], [], [], [], [], [], [], [], [], [], [], [(2, 203)], [], [], [], [], [], [], [], [], [], [], [], [(2, 201)], [], [], [], [], [], [(2, 209)], [], [(3, 111), (3, 112), (3, 113), (1, 24)], [], [], [], [], []]) rfl (by decide +kernel)
theorem am_y309 : am_okA am_M309 := am_mk (3, 180) (by decide +kernel) (am_okL_app am_c309_0 (am_okL_app am_c309_1 (am_okL_app am_c309_2 am_c309_3))) (am_h0 rfl)
theorem am_c310_0 : am_okL "PebbleProofsLaw$Yard" "text" am_M310.2.1 am_e310_0 := am_okL_of (Js := [[(3, 194), (3, 195), (1, 29)], [], [(3, 194), (3, 195), (1, 29)], [], [(3, 196), (3, 197), (1, 29)], [(3, 224)], [(3, 225), (3, 226), (3, 227), (1, 29)], [], [(2, 201)], [(4, 69), (4, 70), (4, 71), (1, 29)], [(4, 94), (4, 95), (4, 96), (1, 29)], [(4, 180), (4, 181), (1, 29)], [], [], [], [], [], [(2, 201)], [], [], [], [], [], [], [], [(2, 203)], [], [], [], [], [], [], [(4, 191)], [(3, 225), (3, 226), (3, 227), (1, 29)], [], [(4, 69), (4, 70), (4, 71), (1, 29)], [], [(4, 192), (4, 193), (4, 194), (1, 29)], [], [(4, 69), (4, 70), (4, 71), (1, 29)], [], [], [], [], [], [], [], [], [], [(2, 201)], [], [], [(2, 205)], [], [], [], [], [(4, 205)], [(3, 225), (3, 226), (3, 227), (1, 29)], []]) rfl (by decide +kernel)
theorem am_c310_1 : am_okL "PebbleProofsLaw$Yard" "text" am_M310.2.1 am_e310_1 := am_okL_of (Js := [[(4, 69), (4, 70), (4, 71), (1, 29)], [], [(4, 192), (4, 193), (4, 194), (1, 29)], [], [(2, 205)], [], [], [(4, 69), (4, 70), (4, 71), (1, 29)], [], [], [], [], [(2, 209)], [(2, 233), (2, 234), (2, 235), (1, 24)], [], [], [(3, 17), (3, 21), (3, 23), (1, 30), (3, 19), (3, 18), (3, 24), (3, 22), (3, 20)], [], [], [(3, 27), (3, 30), (3, 32), (1, 30), (3, 29), (3, 28), (3, 33), (3, 31), (3, 20)], [(3, 104)], [], [], [(4, 206)], [(3, 225), (3, 226), (3, 227), (1, 29)], [], [], [], [(4, 69), (4, 70), (4, 71), (1, 29)], [], [], [], [], [], [(2, 201)], [], [], [], [], [], [], [], [], [], [], [(4, 192), (4, 193), (4, 194), (1, 29)], [], [(4, 69), (4, 70), (4, 71), (1, 29)], [], [(4, 192), (4, 193), (4, 194), (1, 29)], [], [], [], [], [], [(4, 69), (4, 70), (4, 71), (1, 29)], [], [(4, 192), (4, 193), (4, 194), (1, 29)], [], []]) rfl (by decide +kernel)
theorem am_c310_2 : am_okL "PebbleProofsLaw$Yard" "text" am_M310.2.1 am_e310_2 := am_okL_of (Js := [[], [], [], [(4, 69), (4, 70), (4, 71), (1, 29)], [], [], [], [], [], [(4, 94), (4, 95), (4, 96), (1, 29)], []]) rfl (by decide +kernel)
theorem am_y310 : am_okA am_M310 := am_mk (3, 193) (by decide +kernel) (am_okL_app am_c310_0 (am_okL_app am_c310_1 am_c310_2)) (am_h0 rfl)
theorem am_c311_0 : am_okL "PebbleProofsLaw$Yard" "reaches" am_M311.2.1 am_e311_0 := am_okL_of (Js := [[], [], [], [], [], [], [(2, 201)], [], [], [], [], [], [], [], [], [], [], [], [], [], [], [], [], [], [], [], [], [], [], [], [], [], [(2, 211)], [], [], [], [], [(2, 211)], [], [], [], [], [], [], [], [], [], [], [], [], [], [], [(2, 201)], [], [], [], [], [], [], []]) rfl (by decide +kernel)
theorem am_c311_1 : am_okL "PebbleProofsLaw$Yard" "reaches" am_M311.2.1 am_e311_1 := am_okL_of (Js := [[(2, 201)], [], [], [], [], [], [], [], [], [], [(2, 203)], [], [], [], [], [], [], [], [], [], [], [], [], [], [], [], [], [], [], [], [], [], [], [], [], [], [], [], [], [], [], [], [], [], [(5, 226), (5, 227), (5, 228), (1, 21)], [], [], [], [], [], [], [], [], [], [], [], [], [], [], []]) rfl (by decide +kernel)
theorem am_c311_2 : am_okL "PebbleProofsLaw$Yard" "reaches" am_M311.2.1 am_e311_2 := am_okL_of (Js := [[], [], [], [], [], [(2, 211)], [], [], [], [], [], [], [], [], [], []]) rfl (by decide +kernel)
theorem am_y311 : am_okA am_M311 := am_mk (5, 229) (by decide +kernel) (am_okL_app am_c311_0 (am_okL_app am_c311_1 am_c311_2)) (am_h0 rfl)
theorem am_c312_0 : am_okL "PebbleProofsLaw$Yard" "aim" am_M312.2.1 am_e312_0 := am_okL_of (Js := [[], [(2, 212)], [], [], [], [], [], [(4, 211), (4, 212), (4, 213), (1, 21)], [], [], [(2, 213)], [], [], [], [(2, 213)], [], [], [], [], [], [], [], [], [], [], [], [], [], [], [], [], [], [], [], [], [], [], [], [], [(2, 211)], [], [], [(2, 212)], []]) rfl (by decide +kernel)
theorem am_y312 : am_okA am_M312 := am_mk (5, 225) (by decide +kernel) am_c312_0 (am_h0 rfl)
theorem am_c313_0 : am_okL "PebbleProofsLaw$Yard" "reaches" am_M313.2.1 am_e313_0 := am_okL_of (Js := [[], [], [(5, 222), (5, 224), (0, 22), (1, 21)], [], [], [(2, 205)], [(3, 105), (3, 106), (3, 107), (3, 108), (3, 109), (3, 110)], [(3, 104)], [], [(2, 213)], [], [(5, 226), (5, 227), (5, 228), (1, 21)], []]) rfl (by decide +kernel)
theorem am_y313 : am_okA am_M313 := am_mk (5, 221) (by decide +kernel) am_c313_0 (am_h0 rfl)
theorem am_c314_0 : am_okL "PebbleProofsLaw$Yard" "next" am_M314.2.1 am_e314_0 := am_okL_of (Js := [[], [], [], [], [(2, 201)], [], [], [], [], [], [(2, 201)], [], [], [(2, 203)], [], [], [], [], [], [], [(2, 205)], [], [], [], [], [], [(2, 205)], [], [], [], [], [], [], [(2, 205)], [], [], [], [], [], [], [], [(2, 205)], [], [], [], [], [], [], [], [], [(5, 234), (5, 219), (5, 220), (1, 21)], [], [], [(2, 205)], [], [], [], [], [], []]) rfl (by decide +kernel)
theorem am_c314_1 : am_okL "PebbleProofsLaw$Yard" "next" am_M314.2.1 am_e314_1 := am_okL_of (Js := [[], [(2, 205)], [], [], [], [], [], [], [], [], [], [], [], [], [], [], [], [], [], [], [(5, 235)], []]) rfl (by decide +kernel)
theorem am_y314 : am_okA am_M314 := am_mk (5, 233) (by decide +kernel) (am_okL_app am_c314_0 am_c314_1) (am_h0 rfl)
theorem am_c315_0 : am_okL "PebbleProofsLaw$Yard" "move" am_M315.2.1 am_e315_0 := am_okL_of (Js := [[], [(2, 205)], [], [], [], [], [], [], [], [(2, 205)], [], [], [], [], [], [], [], [], [(2, 207)], [], [], [(2, 207)], []]) rfl (by decide +kernel)
theorem am_y315 : am_okA am_M315 := am_mk (5, 217) (by decide +kernel) am_c315_0 (am_h0 rfl)
theorem am_c316_0 : am_okL "PebbleProofsLaw$Yard" "all" am_M316.2.1 am_e316_0 := am_okL_of (Js := [[], [], [], [(2, 205)], [], [], [], [], [], [], [], [], [], [], [], [], [], [], [], [], [], [], [], [], []]) rfl (by decide +kernel)
theorem am_y316 : am_okA am_M316 := am_mk (5, 23) (by decide +kernel) am_c316_0 (am_h0 rfl)
theorem am_c317_0 : am_okL "PebbleProofsLaw$Yard" "isAs" am_M317.2.1 am_e317_0 := am_okL_of (Js := [[], [(4, 211), (4, 212), (4, 213), (1, 21)], [], [], [], [], [], [], [], [(2, 201)], [], [], [], [], [], [(2, 201)], [], [], [], [], [(4, 218), (4, 219), (4, 220), (1, 1)], [], [(2, 203)], [], [], [], [], [], [], [], [], [(5, 3), (5, 4), (5, 5), (1, 1)], [], [], [], [], [], [], [], [], [], [], [], [], [], [], [(5, 11), (2, 3), (1, 12), (2, 4)], [], [], [], [], [], [(5, 12), (5, 13), (5, 14), (1, 1)], [], [(2, 205)], [], [], [], [], []]) rfl (by decide +kernel)
theorem am_c317_1 : am_okL "PebbleProofsLaw$Yard" "isAs" am_M317.2.1 am_e317_1 := am_okL_of (Js := [[], [], [], [], [], [], [], [(2, 201)], [], [], [], [], [(5, 16), (5, 17), (5, 18), (1, 21)], [], [], [], [], [(5, 20), (5, 21), (5, 22), (1, 21)], [], [], [], [], [(2, 207)], [], [], [], [], [(2, 209)], [(5, 24), (5, 25), (5, 26), (1, 24)], [], [], [], [], [], [], [], [], [], [], [], [], [], [(5, 28), (5, 29), (5, 30), (1, 1)], [], [], [], [], [], [], [], [], [], [], [], [], [(2, 209)], [(5, 24), (5, 25), (5, 26), (1, 24)], [], [], [(2, 209)]]) rfl (by decide +kernel)
theorem am_c317_2 : am_okL "PebbleProofsLaw$Yard" "isAs" am_M317.2.1 am_e317_2 := am_okL_of (Js := [[], [(5, 55), (5, 56), (5, 57), (1, 24)], [(3, 104)], [], [], [], [], [], [(2, 201)], [], [], [], [], [], [(5, 67), (5, 68), (5, 69), (1, 1)], [], [], [], [], [], [], [], [], [(5, 67), (5, 68), (5, 69), (1, 1)], [], [], [], [], [], [], [], [], [], [], [(5, 67), (5, 68), (5, 69), (1, 1)], [], [], [], [], [], [], [], [], [], [], [], [], [], []]) rfl (by decide +kernel)
theorem am_y317 : am_okA am_M317 := am_mk (4, 210) (by decide +kernel) (am_okL_app am_c317_0 (am_okL_app am_c317_1 am_c317_2)) (am_h0 rfl)
end
section
/-! ===== the program is as the tables say, further ===== -/
theorem am_c318_0 : am_okL "java/lang/AbstractStringBuilder" "<init>" am_M318.2.1 am_e318_0 := am_okL_of (Js := [[], [(3, 202), (1, 40), (1, 41)], [(3, 203)], [], [], [], [], [(3, 211)], [], [], [(3, 212)], [], [], [], [], [(3, 211)], [], [], [(3, 212)], []]) rfl (by decide +kernel)
theorem am_y318 : am_okA am_M318 := am_mk (3, 201) (by decide +kernel) am_c318_0 (am_h0 rfl)
theorem am_c319_0 : am_okL "java/lang/AbstractStringBuilder" "<init>" am_M319.2.1 am_e319_0 := am_okL_of (Js := [[], [(3, 202), (1, 40), (1, 41)], [], [(4, 34), (2, 19), (2, 20), (1, 13)], [], [], [(4, 186)], [], [], [], [], [], [(4, 5)], [], [], [(4, 43), (2, 23), (2, 24), (1, 13)], [], [], [], [(3, 212)], [], [], [], [], [], [], [], [], [(3, 211)], [], [], [(4, 187), (4, 188), (7, 2), (1, 29), (6, 234), (3, 230), (3, 231)], [], []]) rfl (by decide +kernel)
theorem am_y319 : am_okA am_M319 := am_mk (4, 185) (by decide +kernel) am_c319_0 (am_h0 rfl)
theorem am_c320_0 : am_okL "java/lang/AbstractStringBuilder" "ensureCapacityInternal" am_M320.2.1 am_e320_0 := am_okL_of (Js := [[], [(3, 211)], [], [], [(3, 212)], [], [], [], [], [], [], [], [], [(3, 211)], [], [], [(4, 0), (4, 2), (8, 1), (1, 28), (6, 237), (4, 2), (4, 3)], [], [(3, 212)], [], [(4, 6), (4, 7), (1, 6)], [(3, 211)], []]) rfl (by decide +kernel)
theorem am_y320 : am_okA am_M320 := am_mk (3, 239) (by decide +kernel) am_c320_0 (am_h0 rfl)
theorem am_c321_0 : am_okL "java/lang/AbstractStringBuilder" "newCapacity" am_M321.2.1 am_e321_0 := am_okL_of (Js := [[], [(3, 211)], [], [], [], [], [(3, 212)], [], [], [], [], [], [], [], [], [], [], [], [(3, 212)], [], [], [(4, 4), (3, 128), (1, 27)], [], [], [(4, 5)], [], [], [], [], [], [], [], [], [(3, 212)], [], []]) rfl (by decide +kernel)
theorem am_y321 : am_okA am_M321 := am_mk (4, 3) (by decide +kernel) am_c321_0 (am_h0 rfl)
theorem am_c322_0 : am_okL "java/lang/AbstractStringBuilder" "getValue" am_M322.2.1 am_e322_0 := am_okL_of (Js := [[], [(3, 211)], []]) rfl (by decide +kernel)
theorem am_y322 : am_okA am_M322 := am_mk (4, 111) (by decide +kernel) am_c322_0 (am_h0 rfl)
theorem am_c323_0 : am_okL "java/lang/AbstractStringBuilder" "isLatin1" am_M323.2.1 am_e323_0 := am_okL_of (Js := [[(3, 203)], [], [], [(3, 212)], [], [], [], [], []]) rfl (by decide +kernel)
theorem am_y323 : am_okA am_M323 := am_mk (4, 18) (by decide +kernel) am_c323_0 (am_h0 rfl)
theorem am_c324_0 : am_okL "java/lang/AbstractStringBuilder" "inflateIfNeededFor" am_M324.2.1 am_e324_0 := am_okL_of (Js := [[(3, 203)], [], [], [(3, 212)], [], [(4, 43), (2, 23), (2, 24), (1, 13)], [], [], [], []]) rfl (by decide +kernel)
theorem am_y324 : am_okA am_M324 := am_mk (4, 42) (by decide +kernel) am_c324_0 (am_h0 rfl)
theorem am_c325_0 : am_okL "java/lang/AbstractStringBuilder" "putStringAt" am_M325.2.1 am_e325_0 := am_okL_of (Js := [[], [], [(4, 39), (4, 41), (8, 3), (1, 28), (6, 239), (4, 41), (4, 42)], [], [], [(3, 211)], [], [], [(3, 212)], [(4, 63), (4, 64), (4, 65), (1, 13)], []]) rfl (by decide +kernel)
theorem am_y325 : am_okA am_M325 := am_mk (4, 38) (by decide +kernel) am_c325_0 (am_h0 rfl)
theorem am_c326_0 : am_okL "java/lang/Integer" "getChars" am_M326.2.1 am_e326_0 := am_okL_of (Js := [[], [], [], [], [], [], [], [], [], [], [], [], [], [], [], [], [], [], [], [], [], [], [], [], [], [], [], [], [], [], [], [(4, 82)], [], [], [], [], [], [], [(4, 84)], [], [], [], [], [], [], [], [(4, 82)], [], [], [], [], [], [], [], [], [], [], [(4, 84)], [], []]) rfl (by decide +kernel)
theorem am_c326_1 : am_okL "java/lang/Integer" "getChars" am_M326.2.1 am_e326_1 := am_okL_of (Js := [[], [], [], [], [], [], [], [], [], [], []]) rfl (by decide +kernel)
theorem am_y326 : am_okA am_M326 := am_mk (4, 81) (by decide +kernel) (am_okL_app am_c326_0 am_c326_1) (am_h0 rfl)
theorem am_c327_0 : am_okL "java/lang/Integer" "stringSize" am_M327.2.1 am_e327_0 := am_okL_of (Js := [[], [], [], [], [], [], [], [], [], [], [], [], [], [], [], [], [], [], [], [], [], [], [], [], [], [], [], [], [], [], [], [], []]) rfl (by decide +kernel)
theorem am_y327 : am_okA am_M327 := am_mk (4, 78) (by decide +kernel) am_c327_0 (am_h0 rfl)
theorem am_c328_0 : am_okL "java/lang/String" "<init>" am_M328.2.1 am_e328_0 := am_okL_of (Js := [[], [], [], [(4, 103), (4, 104), (1, 13)], []]) rfl (by decide +kernel)
theorem am_y328 : am_okA am_M328 := am_mk (4, 102) (by decide +kernel) am_c328_0 (am_h0 rfl)
theorem am_c329_0 : am_okL "java/lang/String" "getBytes" am_M329.2.1 am_e329_0 := am_okL_of (Js := [[], [(2, 22), (2, 23), (2, 24), (1, 13)], [], [], [], [(4, 169)], [], [], [], [], [], [], [(4, 169)], [], [(4, 67), (2, 145), (2, 144), (1, 11)], [], [], [(4, 169)], [], [], [], [], [(4, 169)], [], [], []]) rfl (by decide +kernel)
theorem am_y329 : am_okA am_M329 := am_mk (4, 66) (by decide +kernel) am_c329_0 (am_h0 rfl)
theorem am_c330_0 : am_okL "java/lang/String" "<init>" am_M330.2.1 am_e330_0 := am_okL_of (Js := [[], [(4, 106), (1, 40), (1, 41)], [], [(4, 107), (4, 108), (4, 110), (1, 28), (4, 109), (4, 108), (4, 111)], [], [], [(4, 112), (4, 116), (4, 115), (1, 29), (4, 114), (4, 113), (4, 119)], [], [], [(4, 120), (4, 15), (4, 17), (1, 28), (4, 16), (4, 15), (4, 18)], [], [], [], [(4, 170)], [], [], [], [], [(4, 121), (4, 122), (1, 6)], [(4, 169)], [], [(2, 26)], [], [], [(3, 213)], [], [], [], [], [], [], [(4, 169)], [], [], [(4, 169)], [], [], [(4, 170)], [], [], [], [(4, 170)], [], [], [], [], [], [], [(4, 121), (4, 122), (1, 6)], [(4, 169)], []]) rfl (by decide +kernel)
theorem am_y330 : am_okA am_M330 := am_mk (4, 105) (by decide +kernel) am_c330_0 (am_h0 rfl)
theorem am_c331_0 : am_okL "java/lang/StringBuilder" "<init>" am_M331.2.1 am_e331_0 := am_okL_of (Js := [[], [], [(3, 199), (3, 200), (1, 28)], []]) rfl (by decide +kernel)
theorem am_y331 : am_okA am_M331 := am_mk (3, 198) (by decide +kernel) am_c331_0 (am_h0 rfl)
theorem am_c332_0 : am_okL "java/lang/StringBuilder" "<init>" am_M332.2.1 am_e332_0 := am_okL_of (Js := [[], [], [(4, 183), (4, 184), (1, 28)], []]) rfl (by decide +kernel)
theorem am_y332 : am_okA am_M332 := am_mk (4, 182) (by decide +kernel) am_c332_0 (am_h0 rfl)
theorem am_c333_0 : am_okL "java/lang/StringBuilder" "append" am_M333.2.1 am_e333_0 := am_okL_of (Js := [[], [], [(3, 229), (3, 230), (1, 28), (6, 234), (3, 223)], [], [], []]) rfl (by decide +kernel)
theorem am_y333 : am_okA am_M333 := am_mk (3, 228) (by decide +kernel) am_c333_0 (am_h0 rfl)
theorem am_c334_0 : am_okL "java/lang/StringBuilder" "append" am_M334.2.1 am_e334_0 := am_okL_of (Js := [[], [], [(4, 196), (4, 197), (1, 28), (7, 3), (3, 223)], [], [], []]) rfl (by decide +kernel)
theorem am_y334 : am_okA am_M334 := am_mk (4, 195) (by decide +kernel) am_c334_0 (am_h0 rfl)
theorem am_c335_0 : am_okL "java/lang/StringBuilder" "append" am_M335.2.1 am_e335_0 := am_okL_of (Js := [[], [], [(4, 73), (4, 74), (1, 28), (7, 1), (3, 223)], [], [], []]) rfl (by decide +kernel)
theorem am_y335 : am_okA am_M335 := am_mk (4, 72) (by decide +kernel) am_c335_0 (am_h0 rfl)
theorem am_c336_0 : am_okL "java/lang/StringBuilder" "toString" am_M336.2.1 am_e336_0 := am_okL_of (Js := [[(4, 98), (4, 99), (1, 13)], [], [], [(4, 100), (4, 101), (1, 13)], []]) rfl (by decide +kernel)
theorem am_y336 : am_okA am_M336 := am_mk (4, 97) (by decide +kernel) am_c336_0 (am_h0 rfl)
theorem am_c337_0 : am_okL "java/lang/StringBuilder" "append" am_M337.2.1 am_e337_0 := am_okL_of (Js := [[], [], [(4, 190), (3, 226), (3, 227), (1, 29)], []]) rfl (by decide +kernel)
theorem am_y337 : am_okA am_M337 := am_mk (4, 189) (by decide +kernel) am_c337_0 (am_h0 rfl)
theorem am_c338_0 : am_okL "java/lang/StringBuilder" "length" am_M338.2.1 am_e338_0 := am_okL_of (Js := [[], [(4, 118), (4, 113), (1, 28), (4, 114), (3, 223)], []]) rfl (by decide +kernel)
theorem am_y338 : am_okA am_M338 := am_mk (4, 117) (by decide +kernel) am_c338_0 (am_h0 rfl)
theorem am_c339_0 : am_okL "java/lang/StringLatin1" "canEncode" am_M339.2.1 am_e339_0 := am_okL_of (Js := [[], [], [], [], [], [], []]) rfl (by decide +kernel)
theorem am_y339 : am_okA am_M339 := am_mk (4, 201) (by decide +kernel) am_c339_0 (am_h0 rfl)
theorem am_c340_0 : am_okL "java/util/AbstractCollection" "<init>" am_M340.2.1 am_e340_0 := am_okL_of (Js := [[], [(2, 181), (1, 40), (1, 41)], []]) rfl (by decide +kernel)
theorem am_y340 : am_okA am_M340 := am_mk (2, 180) (by decide +kernel) am_c340_0 (am_h0 rfl)
theorem am_c341_0 : am_okL "java/util/AbstractList" "<init>" am_M341.2.1 am_e341_0 := am_okL_of (Js := [[], [(2, 178), (2, 179), (1, 22)], [], [], [], []]) rfl (by decide +kernel)
theorem am_y341 : am_okA am_M341 := am_mk (2, 177) (by decide +kernel) am_c341_0 (am_h0 rfl)
theorem am_c342_0 : am_okL "java/util/ArrayList$Itr" "<init>" am_M342.2.1 am_e342_0 := am_okL_of (Js := [[], [], [(3, 6)], [], [(3, 2), (1, 40), (1, 41)], [], [], [(3, 4)], [], [], [(3, 6)], [(2, 189), (2, 190)], [(3, 5)], []]) rfl (by decide +kernel)
theorem am_y342 : am_okA am_M342 := am_mk (3, 1) (by decide +kernel) am_c342_0 (am_h0 rfl)
theorem am_c343_0 : am_okL "java/util/ArrayList$Itr" "hasNext" am_M343.2.1 am_e343_0 := am_okL_of (Js := [[], [(3, 3)], [], [(3, 6)], [(2, 186)], [], [], [], [], []]) rfl (by decide +kernel)
theorem am_y343 : am_okA am_M343 := am_mk (3, 25) (by decide +kernel) am_c343_0 (am_h0 rfl)
theorem am_c344_0 : am_okL "java/util/ArrayList$Itr" "next" am_M344.2.1 am_e344_0 := am_okL_of (Js := [[], [(3, 35), (3, 36), (3, 37), (1, 30)], [], [(3, 3)], [], [], [], [(3, 6)], [(2, 186)], [], [], [], [], [], [], [(3, 6)], [(2, 185)], [], [], [], [], [], [], [], [], [], [], [], [], [], [(3, 3)], [], [], [], [], [(3, 4)], [], []]) rfl (by decide +kernel)
theorem am_y344 : am_okA am_M344 := am_mk (3, 34) (by decide +kernel) am_c344_0 (am_h0 rfl)
theorem am_c345_0 : am_okL "java/util/ArrayList$Itr" "checkForComodification" am_M345.2.1 am_e345_0 := am_okL_of (Js := [[], [(3, 6)], [(2, 189), (2, 190)], [], [(3, 5)], [], [], [], [], [], []]) rfl (by decide +kernel)
theorem am_y345 : am_okA am_M345 := am_mk (3, 38) (by decide +kernel) am_c345_0 (am_h0 rfl)
theorem am_c346_0 : am_okL "java/util/ArrayList" "<init>" am_M346.2.1 am_e346_0 := am_okL_of (Js := [[], [(2, 175), (2, 176), (1, 23)], [], [(2, 182)], [(2, 184)], []]) rfl (by decide +kernel)
theorem am_y346 : am_okA am_M346 := am_mk (2, 174) (by decide +kernel) am_c346_0 (am_h0 rfl)
theorem am_c347_0 : am_okL "java/util/ArrayList" "grow" am_M347.2.1 am_e347_0 := am_okL_of (Js := [[], [(2, 184)], [], [], [], [], [], [(2, 184)], [(2, 182)], [], [], [], [], [], [], [], [], [(3, 127), (3, 128), (1, 27)], [], [], [], [(2, 184)], [], [], [], [(2, 184)], [], [], [], [], [(3, 168), (2, 3), (1, 12), (2, 4)], [(3, 169)], [], [(2, 184)], []]) rfl (by decide +kernel)
theorem am_y347 : am_okA am_M347 := am_mk (3, 126) (by decide +kernel) am_c347_0 (am_h0 rfl)
theorem am_c348_0 : am_okL "java/util/ArrayList" "grow" am_M348.2.1 am_e348_0 := am_okL_of (Js := [[], [], [(2, 187)], [], [], [(3, 123), (3, 125), (0, 18), (1, 24)], []]) rfl (by decide +kernel)
theorem am_y348 : am_okA am_M348 := am_mk (3, 122) (by decide +kernel) am_c348_0 (am_h0 rfl)
theorem am_c349_0 : am_okL "java/util/ArrayList" "size" am_M349.2.1 am_e349_0 := am_okL_of (Js := [[], [(2, 187)], []]) rfl (by decide +kernel)
theorem am_y349 : am_okA am_M349 := am_mk (5, 27) (by decide +kernel) am_c349_0 (am_h0 rfl)
theorem am_c350_0 : am_okL "java/util/ArrayList" "isEmpty" am_M350.2.1 am_e350_0 := am_okL_of (Js := [[], [(2, 187)], [], [], [], [], []]) rfl (by decide +kernel)
theorem am_y350 : am_okA am_M350 := am_mk (6, 227) (by decide +kernel) am_c350_0 (am_h0 rfl)
theorem am_c351_0 : am_okL "java/util/ArrayList" "elementData" am_M351.2.1 am_e351_0 := am_okL_of (Js := [[], [(2, 184)], [], [], []]) rfl (by decide +kernel)
theorem am_y351 : am_okA am_M351 := am_mk (5, 66) (by decide +kernel) am_c351_0 (am_h0 rfl)
theorem am_c352_0 : am_okL "java/util/ArrayList" "get" am_M352.2.1 am_e352_0 := am_okL_of (Js := [[], [], [(2, 187)], [(5, 59), (5, 60), (1, 26)], [], [], [], [(5, 63), (5, 64), (5, 65), (1, 24)], []]) rfl (by decide +kernel)
theorem am_y352 : am_okA am_M352 := am_mk (5, 58) (by decide +kernel) am_c352_0 (am_h0 rfl)
theorem am_c353_0 : am_okL "java/util/ArrayList" "add" am_M353.2.1 am_e353_0 := am_okL_of (Js := [[], [], [], [], [], [(3, 119), (3, 121), (0, 17), (1, 24)], [], [], [], [], [], [], [], [], [], [(2, 187)], []]) rfl (by decide +kernel)
theorem am_y353 : am_okA am_M353 := am_mk (3, 118) (by decide +kernel) am_c353_0 (am_h0 rfl)
theorem am_c354_0 : am_okL "java/util/ArrayList" "add" am_M354.2.1 am_e354_0 := am_okL_of (Js := [[], [], [(2, 191), (2, 190)], [], [], [(2, 191), (2, 190)], [], [], [], [(2, 184)], [], [(2, 187)], [(3, 115), (3, 117), (0, 16), (1, 24)], [], []]) rfl (by decide +kernel)
theorem am_y354 : am_okA am_M354 := am_mk (3, 114) (by decide +kernel) am_c354_0 (am_h0 rfl)
theorem am_c355_0 : am_okL "java/util/ArrayList" "remove" am_M355.2.1 am_e355_0 := am_okL_of (Js := [[], [], [(2, 187)], [(5, 59), (5, 60), (1, 26)], [], [], [(2, 184)], [], [], [], [], [], [], [], [], [(6, 3), (6, 5), (0, 23), (1, 24)], [], []]) rfl (by decide +kernel)
theorem am_y355 : am_okA am_M355 := am_mk (6, 2) (by decide +kernel) am_c355_0 (am_h0 rfl)
theorem am_c356_0 : am_okL "java/util/ArrayList" "fastRemove" am_M356.2.1 am_e356_0 := am_okL_of (Js := [[], [], [(2, 191), (2, 190)], [], [], [(2, 191), (2, 190)], [], [(2, 187)], [], [], [], [], [], [], [], [], [], [], [], [], [], [], [], [(6, 7), (2, 145), (2, 144), (1, 11)], [], [], [], [], [(2, 187)], [], [], []]) rfl (by decide +kernel)
theorem am_y356 : am_okA am_M356 := am_mk (6, 6) (by decide +kernel) am_c356_0 (am_h0 rfl)
theorem am_c357_0 : am_okL "java/util/ArrayList" "clear" am_M357.2.1 am_e357_0 := am_okL_of (Js := [[], [], [(2, 191), (2, 190)], [], [], [(2, 191), (2, 190)], [], [(2, 184)], [], [], [(2, 187)], [], [], [], [], [(2, 187)], [], [], [], [], [], [], [], [], [], [], []]) rfl (by decide +kernel)
theorem am_y357 : am_okA am_M357 := am_mk (6, 231) (by decide +kernel) am_c357_0 (am_h0 rfl)
theorem am_c358_0 : am_okL "java/util/ArrayList" "iterator" am_M358.2.1 am_e358_0 := am_okL_of (Js := [[(2, 237), (2, 238), (1, 30)], [], [], [(2, 239), (3, 0), (1, 30)], []]) rfl (by decide +kernel)
theorem am_y358 : am_okA am_M358 := am_mk (2, 236) (by decide +kernel) am_c358_0 (am_h0 rfl)
theorem am_c359_0 : am_okL "java/util/Arrays" "copyOf" am_M359.2.1 am_e359_0 := am_okL_of (Js := [[], [], [], [], [], [(4, 9), (4, 10), (3, 107), (3, 108), (4, 11), (4, 12)], [(4, 13)], [], [], [], [], [], [], [], [], [], [], [], [(3, 164), (3, 165), (1, 12), (3, 166)], [(3, 167), (2, 145), (2, 144), (1, 11)], [], []]) rfl (by decide +kernel)
theorem am_y359 : am_okA am_M359 := am_mk (4, 8) (by decide +kernel) am_c359_0 (am_h0 rfl)
theorem am_c360_0 : am_okL "java/util/Arrays" "checkLength" am_M360.2.1 am_e360_0 := am_okL_of (Js := [[], [], [], [], [], [(4, 139), (3, 195), (1, 29)], [], [(4, 140), (3, 197), (1, 29)], [], [(4, 141), (4, 70), (4, 71), (1, 29)], [], [(4, 143), (3, 226), (3, 227), (1, 29)], [], [(4, 141), (4, 70), (4, 71), (1, 29)], [(4, 144), (4, 95), (4, 96), (1, 29)], [], [], []]) rfl (by decide +kernel)
theorem am_y360 : am_okA am_M360 := am_mk (4, 129) (by decide +kernel) am_c360_0 (am_h0 rfl)
theorem am_c361_0 : am_okL "java/util/Arrays" "copyOfRange" am_M361.2.1 am_e361_0 := am_okL_of (Js := [[], [], [], [], [], [], [], [], [], [(4, 124), (4, 125), (1, 6)], [], [], [(4, 9), (4, 10), (3, 107), (3, 108), (4, 11), (4, 12)], [(4, 13)], []]) rfl (by decide +kernel)
theorem am_y361 : am_okA am_M361 := am_mk (4, 123) (by decide +kernel) am_c361_0 (am_h0 rfl)
theorem am_c362_0 : am_okL "java/util/Arrays" "copyOfRangeByte" am_M362.2.1 am_e362_0 := am_okL_of (Js := [[], [], [(4, 127), (4, 128), (1, 6)], [], [], [], [], [], [], [], [], [], [], [], [], [], [], [], [], [(3, 164), (3, 165), (1, 12), (3, 166)], [(3, 167), (2, 145), (2, 144), (1, 11)], [], []]) rfl (by decide +kernel)
theorem am_y362 : am_okA am_M362 := am_mk (4, 126) (by decide +kernel) am_c362_0 (am_h0 rfl)
theorem am_c363_0 : am_okL "java/util/Objects" "checkIndex" am_M363.2.1 am_e363_0 := am_okL_of (Js := [[], [], [], [(5, 62), (2, 45), (1, 15)], []]) rfl (by decide +kernel)
theorem am_y363 : am_okA am_M363 := am_mk (5, 61) (by decide +kernel) am_c363_0 (am_h0 rfl)
theorem am_c364_0 : am_okL "jdk/internal/util/ArraysSupport" "newLength" am_M364.2.1 am_e364_0 := am_okL_of (Js := [[], [], [], [(3, 130), (2, 3), (1, 12), (2, 4)], [], [], [], [], [], [], [(3, 131)], [], [], [], [], [], [], []]) rfl (by decide +kernel)
theorem am_y364 : am_okA am_M364 := am_mk (3, 129) (by decide +kernel) am_c364_0 (am_h0 rfl)
end
section
/-! ===== the program is as the tables say, further ===== -/
theorem am_mk2 {Y : AMe} (q : Nat × Nat) (h1 : (plainName Y.1.cls && decide (Y.1.cls ≠ "java/lang/invoke/MethodHandle" ∧ Y.1.cls ≠ "java/lang/invoke/VarHandle") && decide (Y.2.2.1 ≤ 16) && decide ((parseMethodDescriptor Y.1.desc).map (fun d => d.parameters.length) = some (am_np Y))) = true) (hw : am_wd q = some (am_cw Y)) (hg : goodWord (am_cw Y) = true) (h2 : am_okL Y.1.cls Y.1.name Y.2.1 Y.2.2.2.2.2.2) (h3 : am_okH Y) : am_okA Y := by
  simp only [Bool.and_eq_true, decide_eq_true_eq] at h1
  exact ⟨⟨h1.1.1.1, h1.1.1.2, h1.1.2, h1.2, am_T_in (am_wd_in hw) hg⟩, fun pc E h => h2 E (am_find_mem h), h3⟩
theorem am_c365_0 : am_okL "PebbleProofsLaw" "cell" am_M365.2.1 am_e365_0 := am_okL_of (Js := [[], [], [], [], [], [], [], [], [], []]) rfl (by decide +kernel)
theorem am_y365 : am_okA am_M365 := am_mk (3, 187) (by decide +kernel) am_c365_0 (am_h0 rfl)
theorem am_c366_0 : am_okL "PebbleProofsLaw" "pick" am_M366.2.1 am_e366_0 := am_okL_of (Js := [[], [], [(3, 185), (3, 186), (1, 0)], [(3, 188)], [], [], [], []]) rfl (by decide +kernel)
theorem am_y366 : am_okA am_M366 := am_mk (3, 184) (by decide +kernel) am_c366_0 (am_h0 rfl)
theorem am_c367_0 : am_okL "PebbleProofsLaw" "append" am_M367.2.1 am_e367_0 := am_okL_of (Js := [[], [], [], [], [], [], [(5, 114), (5, 115), (5, 116), (1, 1)], [], [], [(5, 141)], []]) rfl (by decide +kernel)
theorem am_y367 : am_okA am_M367 := am_mk (5, 112) (by decide +kernel) am_c367_0 (am_h1 [(5, 113)] (by decide +kernel) rfl)
theorem am_c368_0 : am_okL "PebbleProofsLaw" "load" am_M368.2.1 am_e368_0 := am_okL_of (Js := [[], [(5, 90), (5, 91), (5, 92), (1, 1)], [], [], [(5, 99)], []]) rfl (by decide +kernel)
theorem am_y368 : am_okA am_M368 := am_mk (5, 88) (by decide +kernel) am_c368_0 (am_h1 [(5, 89)] (by decide +kernel) rfl)
theorem am_c369_0 : am_okL "PebbleProofsLaw" "type" am_M369.2.1 am_e369_0 := am_okL_of (Js := [[], [], [(5, 103), (5, 104), (5, 105), (1, 1)], [], [], [], [], [], [], [], [(5, 108), (2, 19), (2, 20), (1, 13)], [], [], [], [], [], [], [], [], [], [], [], [], [], [], [], [(5, 108), (2, 19), (2, 20), (1, 13)], [], [], [], [], [], [(5, 109), (2, 29), (2, 30), (1, 13)], [], [], [], [], [], [], [], [], [(5, 110), (5, 111), (1, 0)], [], [], [], [], [], [(5, 108), (2, 19), (2, 20), (1, 13)], [], [], [], [], []]) rfl (by decide +kernel)
theorem am_y369 : am_okA am_M369 := am_mk (5, 102) (by decide +kernel) am_c369_0 (am_h0 rfl)
theorem am_c370_0 : am_okL "PebbleProofsLaw" "put" am_M370.2.1 am_e370_0 := am_okL_of (Js := [[], [], [], [(6, 42), (6, 43), (6, 44), (1, 1)], [], [], [(5, 165)], [], [], [(5, 99)], []]) rfl (by decide +kernel)
theorem am_y370 : am_okA am_M370 := am_mk (6, 41) (by decide +kernel) am_c370_0 (am_h1 [(5, 145), (5, 89)] (by decide +kernel) rfl)
theorem am_c371_0 : am_okL "PebbleProofsLaw" "move" am_M371.2.1 am_e371_0 := am_okL_of (Js := [[], [], [], [(5, 146), (5, 147), (5, 148), (1, 1)], [], [], [(5, 165)], [], [], [(5, 141)], []]) rfl (by decide +kernel)
theorem am_y371 : am_okA am_M371 := am_mk (5, 144) (by decide +kernel) am_c371_0 (am_h1 [(5, 145), (5, 113)] (by decide +kernel) rfl)
theorem am_c372_0 : am_okL "PebbleProofsLaw" "reach" am_M372.2.1 am_e372_0 := am_okL_of (Js := [[], [], [(6, 57), (6, 58), (6, 59), (1, 1)], [], [], [(5, 165)], [], [], [(5, 141)], []]) rfl (by decide +kernel)
theorem am_y372 : am_okA am_M372 := am_mk (6, 56) (by decide +kernel) am_c372_0 (am_h1 [(5, 145), (5, 113)] (by decide +kernel) rfl)
theorem am_c373_0 : am_okL "PebbleProofsLaw" "addEdge" am_M373.2.1 am_e373_0 := am_okL_of (Js := [[], [], [], [(6, 14), (6, 15), (6, 16), (1, 1)], [], [], [(5, 165)], [], [], [(5, 99)], [], [], [(5, 141)], []]) rfl (by decide +kernel)
theorem am_y373 : am_okA am_M373 := am_mk (6, 13) (by decide +kernel) am_c373_0 (am_h1 [(5, 145), (5, 89), (5, 113)] (by decide +kernel) rfl)
theorem am_c374_0 : am_okL "PebbleProofsLaw" "removeEdge" am_M374.2.1 am_e374_0 := am_okL_of (Js := [[], [], [], [(6, 26), (6, 27), (6, 28), (1, 1)], [], [], [(5, 165)], [], [], [(5, 99)], [], [], [(5, 141)], []]) rfl (by decide +kernel)
theorem am_y374 : am_okA am_M374 := am_mk (6, 25) (by decide +kernel) am_c374_0 (am_h1 [(5, 145), (5, 89), (5, 113)] (by decide +kernel) rfl)
theorem am_c375_0 : am_okL "PebbleProofsLaw" "take" am_M375.2.1 am_e375_0 := am_okL_of (Js := [[], [], [], [(6, 50), (6, 51), (6, 52), (1, 1)], [], [], [(5, 165)], [], [], [(5, 99)], [], [], [(5, 141)], []]) rfl (by decide +kernel)
theorem am_y375 : am_okA am_M375 := am_mk (6, 49) (by decide +kernel) am_c375_0 (am_h1 [(5, 145), (5, 89), (5, 113)] (by decide +kernel) rfl)
theorem am_c376_0 : am_okL "PebbleProofsLaw" "addStrategy" am_M376.2.1 am_e376_0 := am_okL_of (Js := [[], [], [(6, 170), (6, 171), (6, 172), (1, 1)], [], [], [(5, 165)], [], [], [(5, 141)], []]) rfl (by decide +kernel)
theorem am_y376 : am_okA am_M376 := am_mk (6, 169) (by decide +kernel) am_c376_0 (am_h1 [(5, 145), (5, 113)] (by decide +kernel) rfl)
theorem am_c377_0 : am_okL "PebbleProofsLaw" "weigh" am_M377.2.1 am_e377_0 := am_okL_of (Js := [[], [], [], [], [], [(6, 178), (6, 179), (6, 180), (1, 1)], [], [], [(5, 165)], [], [], [(5, 99)], []]) rfl (by decide +kernel)
theorem am_y377 : am_okA am_M377 := am_mk (6, 177) (by decide +kernel) am_c377_0 (am_h1 [(5, 145), (5, 89)] (by decide +kernel) rfl)
theorem am_c378_0 : am_okL "PebbleProofsLaw" "dropStrategy" am_M378.2.1 am_e378_0 := am_okL_of (Js := [[], [], [(6, 187), (6, 188), (6, 189), (1, 1)], [], [], [(5, 165)], []]) rfl (by decide +kernel)
theorem am_y378 : am_okA am_M378 := am_mk (6, 186) (by decide +kernel) am_c378_0 (am_h1 [(5, 145)] (by decide +kernel) rfl)
theorem am_c379_0 : am_okL "PebbleProofsLaw" "undo" am_M379.2.1 am_e379_0 := am_okL_of (Js := [[], [(5, 169), (5, 170), (5, 171), (1, 1)], [], [], [(5, 141)], []]) rfl (by decide +kernel)
theorem am_y379 : am_okA am_M379 := am_mk (5, 168) (by decide +kernel) am_c379_0 (am_h1 [(5, 113)] (by decide +kernel) rfl)
theorem am_c380_0 : am_okL "PebbleProofsLaw" "restore" am_M380.2.1 am_e380_0 := am_okL_of (Js := [[], [(5, 181), (5, 182), (5, 183), (1, 1)], [], [], [(5, 141)], []]) rfl (by decide +kernel)
theorem am_y380 : am_okA am_M380 := am_mk (5, 180) (by decide +kernel) am_c380_0 (am_h1 [(5, 113)] (by decide +kernel) rfl)
theorem am_c381_0 : am_okL "PebbleProofsLaw" "isError" am_M381.2.1 am_e381_0 := am_okL_of (Js := [[], [(5, 165)], [], [], [(5, 189)], [], [], [], [], []]) rfl (by decide +kernel)
theorem am_y381 : am_okA am_M381 := am_mk (5, 188) (by decide +kernel) am_c381_0 (am_h0 rfl)
theorem am_c382_0 : am_okL "PebbleProofsLaw" "one" am_M382.2.1 am_e382_0 := am_okL_of (Js := [[], [], [], [], [], [], [], [], [], [], [], []]) rfl (by decide +kernel)
theorem am_y382 : am_okA am_M382 := am_mk (5, 195) (by decide +kernel) am_c382_0 (am_h0 rfl)
theorem am_c383_0 : am_okL "PebbleProofsLaw" "some" am_M383.2.1 am_e383_0 := am_okL_of (Js := [[], [], [], [], [], [], [], [], [], [], [], [], [], [], [], [], [], [], [], [], [], [], [], [], [], []]) rfl (by decide +kernel)
theorem am_y383 : am_okA am_M383 := am_mk (5, 210) (by decide +kernel) am_c383_0 (am_h0 rfl)
theorem am_c384_0 : am_okL "PebbleProofsLaw" "is" am_M384.2.1 am_e384_0 := am_okL_of (Js := [[], [], [], [], [], [], [], [], [], []]) rfl (by decide +kernel)
theorem am_y384 : am_okA am_M384 := am_mk (5, 213) (by decide +kernel) am_c384_0 (am_h0 rfl)
theorem am_c385_0 : am_okL "PebbleProofsLaw" "act" am_M385.2.1 am_e385_0 := am_okL_of (Js := [[], [], [], [], [], [], [(2, 202)], [(5, 193), (5, 194), (1, 0)], [], [], [], [(2, 202)], [(5, 193), (5, 194), (1, 0)], [], [], [], [(2, 202)], [], [], [], [(2, 202)], [], [], [], [], [], [], [], [(2, 210)], [(5, 196), (5, 25), (5, 26), (1, 24)], [(5, 193), (5, 194), (1, 0)], [], [], [], [], [], [(5, 165)], [], [], [], [], [(5, 99)], [], [], [(2, 204)], [], [], [], [], [], [], [], [(5, 197), (5, 198), (5, 199), (1, 32)], [], [], [], [], [(5, 202), (3, 175), (3, 176), (1, 21)], [], [(5, 203), (5, 17), (5, 18), (1, 21)]]) rfl (by decide +kernel)
theorem am_c385_1 : am_okL "PebbleProofsLaw" "act" am_M385.2.1 am_e385_1 := am_okL_of (Js := [[], [], [], [(5, 165)], [], [], [], [], [(5, 99)], [], [], [(2, 204)], [], [], [], [], [], [], [], [(5, 197), (5, 198), (5, 199), (1, 32)], [], [], [], [], [(5, 202), (3, 175), (3, 176), (1, 21)], [], [(5, 204), (5, 205), (5, 206), (1, 21)], [], [], [(5, 203), (5, 17), (5, 18), (1, 21)], [], [], [], [(5, 197), (5, 198), (5, 199), (1, 32)], [], [], [], [], [], [], [], [], [], [], [(5, 208), (5, 209), (1, 0)], [], [], [], [(2, 202)], [], [(5, 165)], [], [], [], [], [(5, 211), (5, 212), (1, 0)], [], [], [(2, 206)], []]) rfl (by decide +kernel)
theorem am_c385_2 : am_okL "PebbleProofsLaw" "act" am_M385.2.1 am_e385_2 := am_okL_of (Js := [[], [], [], [], [], [(5, 99)], [], [], [(2, 206)], [], [], [], [], [], [], [], [(2, 206)], [], [], [], [], [], [], [], [], [], [], [], [], [(5, 208), (5, 209), (1, 0)], [], [], [], [(2, 202)], [], [(5, 165)], [], [], [], [], [(5, 211), (5, 212), (1, 0)], [], [(5, 99)], [], [], [(2, 206)], [], [], [], [], [], [], [(5, 197), (5, 198), (5, 199), (1, 32)], [], [], [(2, 206)], [], [], [], []]) rfl (by decide +kernel)
theorem am_c385_3 : am_okL "PebbleProofsLaw" "act" am_M385.2.1 am_e385_3 := am_okL_of (Js := [[], [], [], [(2, 206)], [], [], [], [], [], [(5, 165)], [], [], [(2, 204)], [], [], [], [], [], [], [], [(5, 197), (5, 198), (5, 199), (1, 32)], [], [], [(2, 206)], [], [], [], [], [], [], [(5, 197), (5, 198), (5, 199), (1, 32)], [], [], [(2, 206)], [], [], [], [], [], [], [(5, 197), (5, 198), (5, 199), (1, 32)], [], [], [], [], [(5, 214), (5, 215), (5, 216), (1, 21)], [], [(2, 206)], [], [], [], [], [], [(2, 202)], [], [(5, 165)], [], [], [], [(5, 218), (5, 219), (5, 220), (1, 21)]]) rfl (by decide +kernel)
theorem am_c385_4 : am_okL "PebbleProofsLaw" "act" am_M385.2.1 am_e385_4 := am_okL_of (Js := [[], [], [], [(5, 197), (5, 198), (5, 199), (1, 32)], [], [], [(2, 208)], [], [], [(2, 206)], [], [], [], [], [], [(5, 230), (5, 231), (5, 232), (1, 21)], [], [], [], [], [], [], [], [], [(5, 214), (5, 215), (5, 216), (1, 21)], [], [], [(2, 208)], [], [], [], [], [], [(2, 202)], [], [(5, 165)], [], [], [(2, 210)], [(5, 196), (5, 25), (5, 26), (1, 24)], [], [], [], [], [(5, 197), (5, 198), (5, 199), (1, 32)], [], [], [], [], [], [], [], [], [], [], [], [], [], [], []]) rfl (by decide +kernel)
theorem am_c385_5 : am_okL "PebbleProofsLaw" "act" am_M385.2.1 am_e385_5 := am_okL_of (Js := [[], [], [], [], [], [(2, 210)], [], [(5, 236), (3, 112), (3, 113), (1, 24)], [], [], [(2, 210)], [(5, 196), (5, 25), (5, 26), (1, 24)], [], [], [], [], [], [(2, 202)], [(5, 193), (5, 194), (1, 0)], [], [], [], [], [], [(2, 202)], [(5, 193), (5, 194), (1, 0)], [], [], [], [], [], [], [(5, 208), (5, 209), (1, 0)], [], [], [], [(2, 210)], [(5, 196), (5, 25), (5, 26), (1, 24)], [], [], [], [(2, 202)], [], [], [], [(2, 202)], [], [(5, 165)], [], [], [(2, 210)], [], [(5, 237), (5, 56), (5, 57), (1, 24)], [(5, 238)], [], [], [], [], [(5, 211), (5, 212), (1, 0)], []]) rfl (by decide +kernel)
theorem am_c385_6 : am_okL "PebbleProofsLaw" "act" am_M385.2.1 am_e385_6 := am_okL_of (Js := [[], [], [], [], [], [(5, 99)], [], [], [], [], [], [], [], [], [], [], [], [], [], [], [], [], [], [], [], [], [], [], [], [(2, 210)], [(5, 196), (5, 25), (5, 26), (1, 24)], [], [(5, 165)], [], [], [(2, 210)], [], [(5, 239), (6, 0), (6, 1), (1, 24)], [(5, 238)], [], [], [(2, 210)], [(5, 196), (5, 25), (5, 26), (1, 24)], []]) rfl (by decide +kernel)
theorem am_y385 : am_okA am_M385 := am_mk2 (5, 192) (by decide +kernel) rfl (by decide +kernel) (am_okL_app am_c385_0 (am_okL_app am_c385_1 (am_okL_app am_c385_2 (am_okL_app am_c385_3 (am_okL_app am_c385_4 (am_okL_app am_c385_5 am_c385_6)))))) (am_h0 rfl)
theorem am_c386_0 : am_okL "PebbleProofsLaw" "call" am_M386.2.1 am_e386_0 := am_okL_of (Js := [[], [], [], [], [], [], [(2, 202)], [(5, 193), (5, 194), (1, 0)], [], [], [], [(2, 202)], [(5, 193), (5, 194), (1, 0)], [], [], [], [(2, 210)], [(5, 196), (5, 25), (5, 26), (1, 24)], [(5, 193), (5, 194), (1, 0)], [], [], [], [], [], [], [(6, 11), (6, 12), (1, 0)], [], [], [], [], [(6, 23), (6, 24), (1, 0)], [], [], [], [], [], [], [], [], [], [], [], [], [(5, 208), (5, 209), (1, 0)], [(6, 39), (6, 40), (1, 0)], [], [], [], [], [], [], [], [], [], [], [], [], [(5, 208), (5, 209), (1, 0)], [(6, 47), (6, 48), (1, 0)], []]) rfl (by decide +kernel)
theorem am_c386_1 : am_okL "PebbleProofsLaw" "call" am_M386.2.1 am_e386_1 := am_okL_of (Js := [[], [], [], [(5, 142), (5, 143), (1, 0)], [], [], [], [(6, 54), (6, 55), (1, 0)], [], [], [], [(6, 167), (6, 168), (1, 0)], [], [], [], [], [], [(2, 202)], [(5, 193), (5, 194), (1, 0)], [], [], [], [], [(2, 202)], [(5, 193), (5, 194), (1, 0)], [], [], [], [], [], [(5, 208), (5, 209), (1, 0)], [(6, 175), (6, 176), (1, 0)], [], [], [], [(6, 184), (6, 185), (1, 0)], []]) rfl (by decide +kernel)
theorem am_y386 : am_okA am_M386 := am_mk (6, 10) (by decide +kernel) (am_okL_app am_c386_0 am_c386_1) (am_h0 rfl)
theorem am_c387_0 : am_okL "PebbleProofsLaw" "isWrong" am_M387.2.1 am_e387_0 := am_okL_of (Js := [[], [], [(5, 100), (5, 101), (1, 0)], [], [], [(1, 226), (1, 227), (1, 228), (1, 1)], [], [], [], [(5, 86), (5, 87), (1, 0)], [(5, 99)], [], [], [], [], []]) rfl (by decide +kernel)
theorem am_y387 : am_okA am_M387 := am_mk (6, 203) (by decide +kernel) am_c387_0 (am_h0 rfl)
theorem am_c388_0 : am_okL "PebbleProofsLaw" "texts" am_M388.2.1 am_e388_0 := am_okL_of (Js := [[], [(6, 200)], [], [(6, 201), (6, 202), (1, 0)], [], [], [(6, 204)], [], [(6, 201), (6, 202), (1, 0)], [], [], [(6, 205)], [], [(6, 201), (6, 202), (1, 0)], [], [], [(6, 206)], [], [(6, 201), (6, 202), (1, 0)], [], [], [(6, 207)], [], [(6, 201), (6, 202), (1, 0)], [], [], [], [], [], [], [], [], [(6, 208)], [], [(6, 201), (6, 202), (1, 0)], [], [], [(6, 209)], [], [(6, 201), (6, 202), (1, 0)], [], [], [(6, 210)], [], [(6, 201), (6, 202), (1, 0)], [], [], [(6, 211)], [], [(6, 201), (6, 202), (1, 0)], [], [], [(6, 212)], [], [(6, 201), (6, 202), (1, 0)], [], [], [], [], []]) rfl (by decide +kernel)
theorem am_c388_1 : am_okL "PebbleProofsLaw" "texts" am_M388.2.1 am_e388_1 := am_okL_of (Js := [[], [], [], [(6, 213)], [], [(6, 201), (6, 202), (1, 0)], [], [], [(6, 214)], [], [(6, 201), (6, 202), (1, 0)], [], [], [(6, 215)], [], [(6, 201), (6, 202), (1, 0)], [], [], [(6, 216)], [], [(6, 201), (6, 202), (1, 0)], [], [], [(6, 217)], [], [(6, 201), (6, 202), (1, 0)], [], [], [], [], [], [], [], [], [(6, 218)], [], [(6, 201), (6, 202), (1, 0)], [], [], [(6, 219)], [], [(6, 201), (6, 202), (1, 0)], [], [], [(6, 220)], [], [(6, 201), (6, 202), (1, 0)], [], [], [(6, 221)], [], [(6, 201), (6, 202), (1, 0)], [], [], [], [], []]) rfl (by decide +kernel)
theorem am_y388 : am_okA am_M388 := am_mk (6, 199) (by decide +kernel) (am_okL_app am_c388_0 am_c388_1) (am_h0 rfl)
theorem am_c389_0 : am_okL "PebbleProofsLaw" "law" am_M389.2.1 am_e389_0 := am_okL_of (Js := [[(1, 34), (1, 35), (1, 1)], [], [(1, 36), (1, 37), (1, 1)], [], [], [(5, 166), (5, 167), (1, 0)], [(5, 141)], [], [], [(5, 178), (5, 179), (1, 0)], [(5, 141)], [], [], [(5, 86), (5, 87), (1, 0)], [(5, 99)], [], [], [], [], [(5, 142), (5, 143), (1, 0)], [(5, 165)], [], [], [(2, 146), (2, 147), (2, 148), (1, 1)], [], [(3, 170), (3, 171), (1, 21)], [], [(4, 207), (4, 208), (4, 209), (1, 21)], [], [], [], [], [(3, 178), (3, 179), (1, 21)], [], [], [], [(3, 190), (3, 191), (3, 192), (1, 21)], [(5, 100), (5, 101), (1, 0)], [], [], [(1, 226), (1, 227), (1, 228), (1, 1)], [], [], [], [(5, 86), (5, 87), (1, 0)], [], [(2, 202)], [], [], [], [(4, 207), (4, 208), (4, 209), (1, 21)], [], [], [], [(6, 222), (2, 171), (1, 24)], [], [(6, 223), (2, 173), (1, 24)], [], [], []]) rfl (by decide +kernel)
theorem am_c389_1 : am_okL "PebbleProofsLaw" "law" am_M389.2.1 am_e389_1 := am_okL_of (Js := [[(2, 150), (2, 151), (1, 32)], [], [(2, 152), (2, 153), (1, 32)], [], [], [], [], [], [], [], [], [], [], [], [], [(6, 232)], [(5, 85), (3, 183), (1, 0)], [], [], [], [], [], [], [], [], [], [], [], [], [], [], [], [], [], [(5, 166), (5, 167), (1, 0)], [], [(6, 224), (6, 225), (6, 226), (1, 24)], [], [(5, 141)], [], [], [(5, 196), (5, 25), (5, 26), (1, 24)], [], [], [], [], [], [], [(6, 224), (6, 225), (6, 226), (1, 24)], [], [], [], [(5, 196), (5, 25), (5, 26), (1, 24)], [], [], [(5, 239), (6, 0), (6, 1), (1, 24)], [(2, 161)], [], [], []]) rfl (by decide +kernel)
theorem am_c389_2 : am_okL "PebbleProofsLaw" "law" am_M389.2.1 am_e389_2 := am_okL_of (Js := [[], [], [], [], [], [], [], [(2, 135), (2, 136), (2, 137), (1, 1)], [], [(2, 202)], [], [], [], [(2, 161), (2, 162), (1, 21)], [], [], [(2, 163), (2, 164), (1, 21)], [], [], [], [(5, 178), (5, 179), (1, 0)], [], [], [(5, 141)], [], [], [(2, 202)], [], [], [], [], [], [(2, 161), (2, 162), (1, 21)], [], [], [(2, 163), (2, 164), (1, 21)], [], [], [(6, 228), (6, 229), (6, 230), (1, 24)], [], [(2, 161), (2, 162), (1, 21)], [], [], [(2, 163), (2, 164), (1, 21)], [], [], [], [], [], [], [], [], [], [], [], [], [], [(5, 190), (5, 191), (1, 0)], [], []]) rfl (by decide +kernel)
theorem am_c389_3 : am_okL "PebbleProofsLaw" "law" am_M389.2.1 am_e389_3 := am_okL_of (Js := [[], [], [], [], [], [(6, 8), (6, 9), (1, 0)], [], [], [], [], [], [(5, 186), (5, 187), (1, 0)], [], [], [], [], [], [(5, 196), (5, 25), (5, 26), (1, 24)], [], [], [], [], [(5, 239), (6, 0), (6, 1), (1, 24)], [], [], [], [(5, 236), (3, 112), (3, 113), (1, 24)], [], [], [], [(4, 207), (4, 208), (4, 209), (1, 21)], [], [], [(2, 131), (2, 132), (2, 133), (1, 1)], [], [(5, 196), (5, 25), (5, 26), (1, 24)], [], [], [(2, 146), (2, 147), (2, 148), (1, 1)], [], [(2, 157)], [], [], [], [], [], [], [(6, 197), (6, 198), (1, 0)], [], [], [], [(4, 207), (4, 208), (4, 209), (1, 21)], [], [], [], [], []]) rfl (by decide +kernel)
theorem am_lawB : am_okB am_M389 := fun pc E h => (am_okL_app am_c389_0 (am_okL_app am_c389_1 (am_okL_app am_c389_2 am_c389_3))) E (am_find_mem h)
theorem am_lawH : am_okH am_M389 := am_h0 rfl
theorem am_c400_0 : am_okL "java/lang/AbstractStringBuilder" "append" am_M400.2.1 am_e400_0 := am_okL_of (Js := [[], [], [], [], [], [], [(4, 34), (2, 19), (2, 20), (1, 13)], [], [], [], [(3, 214)], [], [], [(3, 236), (3, 238), (8, 0), (1, 28), (6, 236), (3, 238), (3, 239)], [], [], [(3, 214)], [], [(4, 35), (4, 37), (8, 2), (1, 28), (6, 238), (4, 37), (4, 38)], [], [], [(3, 214)], [], [], [(3, 214)], [], []]) rfl (by decide +kernel)
theorem am_y400 : am_okA am_M400 := am_mk (3, 231) (by decide +kernel) am_c400_0 (am_h0 rfl)
theorem am_c401_0 : am_okL "java/lang/AbstractStringBuilder" "append" am_M401.2.1 am_e401_0 := am_okL_of (Js := [[], [], [(3, 214)], [], [], [(3, 236), (3, 238), (8, 0), (1, 28), (6, 236), (3, 238), (3, 239)], [], [(4, 14), (4, 15), (4, 17), (1, 28), (4, 16), (4, 15), (4, 18)], [], [], [(4, 199), (4, 200), (1, 14)], [], [], [(3, 211)], [], [], [(3, 214)], [], [], [], [(3, 214)], [], [], [], [], [], [(4, 14), (4, 15), (4, 17), (1, 28), (4, 16), (4, 15), (4, 18)], [], [], [], [], [(3, 211)], [], [], [(3, 214)], [], [], [], [(3, 214)], [], [], [], []]) rfl (by decide +kernel)
theorem am_y401 : am_okA am_M401 := am_mk (4, 198) (by decide +kernel) am_c401_0 (am_h0 rfl)
theorem am_c402_0 : am_okL "java/lang/AbstractStringBuilder" "append" am_M402.2.1 am_e402_0 := am_okL_of (Js := [[], [(3, 214)], [], [], [], [(4, 76), (4, 77), (1, 18)], [], [], [], [], [(3, 236), (3, 238), (8, 0), (1, 28), (6, 236), (3, 238), (3, 239)], [], [(4, 14), (4, 15), (4, 17), (1, 28), (4, 16), (4, 15), (4, 18)], [], [], [], [], [(3, 211)], [(4, 79), (4, 80), (1, 18)], [], [], [], [], [], [], [(3, 211)], [], [], [], [], [(3, 214)], [], []]) rfl (by decide +kernel)
theorem am_y402 : am_okA am_M402 := am_mk (4, 75) (by decide +kernel) am_c402_0 (am_h0 rfl)
theorem am_c403_0 : am_okL "java/lang/AbstractStringBuilder" "length" am_M403.2.1 am_e403_0 := am_okL_of (Js := [[], [(3, 214)], []]) rfl (by decide +kernel)
theorem am_y403 : am_okA am_M403 := am_mk (4, 119) (by decide +kernel) am_c403_0 (am_h0 rfl)
end
section
theorem am_lc {i : Nat} {a : AMe} {L : List (Nat × AMe)} (h : am_okA a) (t : ∀ j Y, am_look L j = some Y → am_okA Y) : ∀ j Y, am_look ((i, a) :: L) j = some Y → am_okA Y := by
  intro j Y hj
  unfold am_look at hj
  split at hj
  · cases hj; exact h
  · exact t j Y hj
theorem am_ln : ∀ j Y, am_look [] j = some Y → am_okA Y := fun j Y h => by cases h
theorem am_z0 : ∀ j Y, am_look am_pl0 j = some Y → am_okA Y := (am_lc am_y0 (am_lc am_y1 (am_lc am_y2 (am_lc am_y3 (am_lc am_y4 (am_lc am_y5 (am_lc am_y6 (am_lc am_y7 (am_lc am_y8 (am_lc am_y9 (am_lc am_y10 (am_lc am_y11 (am_lc am_y12 (am_lc am_y13 (am_lc am_y14 (am_lc am_y15 (am_lc am_y18 (am_lc am_y22 (am_lc am_y23 (am_lc am_y24 am_ln))))))))))))))))))))
theorem am_z1 : ∀ j Y, am_look am_pl1 j = some Y → am_okA Y := (am_lc am_y25 (am_lc am_y26 (am_lc am_y27 (am_lc am_y28 (am_lc am_y29 (am_lc am_y36 (am_lc am_y37 (am_lc am_y38 (am_lc am_y39 (am_lc am_y40 (am_lc am_y41 (am_lc am_y42 (am_lc am_y43 (am_lc am_y44 (am_lc am_y45 (am_lc am_y46 (am_lc am_y47 (am_lc am_y48 (am_lc am_y49 (am_lc am_y50 am_ln))))))))))))))))))))
theorem am_z2 : ∀ j Y, am_look am_pl2 j = some Y → am_okA Y := (am_lc am_y51 (am_lc am_y52 (am_lc am_y62 (am_lc am_y63 (am_lc am_y64 (am_lc am_y65 (am_lc am_y66 (am_lc am_y67 (am_lc am_y68 (am_lc am_y69 (am_lc am_y70 (am_lc am_y71 (am_lc am_y72 (am_lc am_y73 (am_lc am_y74 (am_lc am_y75 (am_lc am_y76 (am_lc am_y77 (am_lc am_y78 (am_lc am_y79 am_ln))))))))))))))))))))
theorem am_z3 : ∀ j Y, am_look am_pl3 j = some Y → am_okA Y := (am_lc am_y80 (am_lc am_y81 (am_lc am_y82 (am_lc am_y83 (am_lc am_y84 (am_lc am_y85 (am_lc am_y86 (am_lc am_y87 (am_lc am_y88 (am_lc am_y89 (am_lc am_y90 (am_lc am_y91 (am_lc am_y92 (am_lc am_y93 (am_lc am_y94 (am_lc am_y95 (am_lc am_y96 (am_lc am_y97 (am_lc am_y98 (am_lc am_y99 am_ln))))))))))))))))))))
theorem am_z4 : ∀ j Y, am_look am_pl4 j = some Y → am_okA Y := (am_lc am_y100 (am_lc am_y102 (am_lc am_y115 (am_lc am_y124 (am_lc am_y125 (am_lc am_y126 (am_lc am_y128 (am_lc am_y129 (am_lc am_y130 (am_lc am_y131 (am_lc am_y253 (am_lc am_y254 (am_lc am_y255 (am_lc am_y256 (am_lc am_y257 (am_lc am_y258 (am_lc am_y259 (am_lc am_y260 (am_lc am_y261 (am_lc am_y262 am_ln))))))))))))))))))))
theorem am_z5 : ∀ j Y, am_look am_pl5 j = some Y → am_okA Y := (am_lc am_y300 (am_lc am_y301 (am_lc am_y302 (am_lc am_y303 (am_lc am_y304 (am_lc am_y305 (am_lc am_y306 (am_lc am_y307 (am_lc am_y308 (am_lc am_y309 (am_lc am_y310 (am_lc am_y311 (am_lc am_y312 (am_lc am_y313 (am_lc am_y314 (am_lc am_y315 (am_lc am_y316 (am_lc am_y317 (am_lc am_y318 (am_lc am_y319 am_ln))))))))))))))))))))
theorem am_z6 : ∀ j Y, am_look am_pl6 j = some Y → am_okA Y := (am_lc am_y320 (am_lc am_y321 (am_lc am_y322 (am_lc am_y323 (am_lc am_y324 (am_lc am_y325 (am_lc am_y326 (am_lc am_y327 (am_lc am_y328 (am_lc am_y329 (am_lc am_y330 (am_lc am_y331 (am_lc am_y332 (am_lc am_y333 (am_lc am_y334 (am_lc am_y335 (am_lc am_y336 (am_lc am_y337 (am_lc am_y338 (am_lc am_y339 am_ln))))))))))))))))))))
theorem am_z7 : ∀ j Y, am_look am_pl7 j = some Y → am_okA Y := (am_lc am_y340 (am_lc am_y341 (am_lc am_y342 (am_lc am_y343 (am_lc am_y344 (am_lc am_y345 (am_lc am_y346 (am_lc am_y347 (am_lc am_y348 (am_lc am_y349 (am_lc am_y350 (am_lc am_y351 (am_lc am_y352 (am_lc am_y353 (am_lc am_y354 (am_lc am_y355 (am_lc am_y356 (am_lc am_y357 (am_lc am_y358 (am_lc am_y359 am_ln))))))))))))))))))))
theorem am_z8 : ∀ j Y, am_look am_pl8 j = some Y → am_okA Y := (am_lc am_y360 (am_lc am_y361 (am_lc am_y362 (am_lc am_y363 (am_lc am_y364 (am_lc am_y365 (am_lc am_y366 (am_lc am_y367 (am_lc am_y368 (am_lc am_y369 (am_lc am_y370 (am_lc am_y371 (am_lc am_y372 (am_lc am_y373 (am_lc am_y374 (am_lc am_y375 (am_lc am_y376 (am_lc am_y377 (am_lc am_y378 (am_lc am_y379 am_ln))))))))))))))))))))
theorem am_z9 : ∀ j Y, am_look am_pl9 j = some Y → am_okA Y := (am_lc am_y380 (am_lc am_y381 (am_lc am_y382 (am_lc am_y383 (am_lc am_y384 (am_lc am_y385 (am_lc am_y386 (am_lc am_y387 (am_lc am_y388 (am_lc am_y400 (am_lc am_y401 (am_lc am_y402 (am_lc am_y403 am_ln)))))))))))))
theorem am_prog_ok : ∀ (mi : Nat) (Y : AMe), am_prog mi = some Y → am_okY Y ∧ am_okB Y ∧ am_okH Y := by
  intro mi Y h
  unfold am_prog at h
  split at h
  · exact am_z0 _ _ h
  · have h0 := h
    split at h
    · exact am_z1 _ _ h
    · have h0 := h
      split at h
      · exact am_z2 _ _ h
      · have h0 := h
        split at h
        · exact am_z3 _ _ h
        · have h0 := h
          split at h
          · exact am_z4 _ _ h
          · have h0 := h
            split at h
            · exact am_z5 _ _ h
            · have h0 := h
              split at h
              · exact am_z6 _ _ h
              · have h0 := h
                split at h
                · exact am_z7 _ _ h
                · have h0 := h
                  split at h
                  · exact am_z8 _ _ h
                  · have h0 := h
                    exact am_z9 _ _ h
end
section
/-! ===== the simulation: calls, ends, throws ===== -/
def am_RO (X : Nat → Value → Prop) (as : List Nat) : Option Value → Option Value → Prop
  | none, none => True
  | some v, some w => am_RV X as v w
  | _, _ => False
def am_Qc (k : AK) (b : Nat) (as : List Nat) (v : Option Value) (h1 : AHp) : Array Value → State → Outcome → State → Prop := fun _ st oc t =>
  (∃ (w : Option Value) (as1 : List Nat) (ws1 : va_W), oc = .returned w ∧ am_RO (am_X k b) as1 v w ∧ (∃ u, as1 = as ++ u) ∧ am_RW (am_X k b) k.2.2.1 as1 h1 ws1 ∧ va_P k.2.1 am_cl ws1 t.heap ∧ va_D (am_A k) ws1) ∧ va_F (am_A k) st t
def am_Qr (k : AK) (b : Nat) (as : List Nat) (res : ARe) : Array Value → State → Outcome → State → Prop := match res.1 with
  | .inl v => am_Qc k b as v res.2.1
  | .inr _ => fun _ _ _ _ => False
def am_Xr (k : AK) (b : Nat) (as : List Nat) (res : ARe) : String → State → State → Prop := match res.1 with
  | .inl _ => fun _ _ _ => False
  | .inr i => fun E st t => E = am_exn i ∧ (∃ (as1 : List Nat) (ws1 : va_W), (∃ u, as1 = as ++ u) ∧ am_RW (am_X k b) k.2.2.1 as1 res.2.1 ws1 ∧ va_P k.2.1 am_cl ws1 t.heap ∧ va_D (am_A k) ws1) ∧ va_F (am_A k) st t
def am_rm (d : Nat) (res : ARe) : Room := { frames := d, cells := res.2.2.1, slots := res.2.2.2, locals := 35 * d }
def am_Ct (l : Launch) (k : AK) (b : Nat) (scr : ASc) (d : Nat) (Y : AMe) (vs : List Value) (h : AHp) (res : ARe) : Prop :=
  ∀ (as : List Nat) (ws : va_W) (args1 : List Value), am_RS (am_X k b) as vs args1 → am_RW (am_X k b) k.2.2.1 as h ws → va_D (am_A k) ws →
    vx_Met l Y.1 (am_cw Y :: am_T) (am_rm d res) (va_Pc args1 (fun U => am_Wd k b scr U ∧ va_P k.2.1 am_cl ws U.heap)) (am_Qr k b as res) (am_Xr k b as res) res.2.2.1 res.2.2.2 (am_A k)
theorem am_blind (k : AK) (b : Nat) (scr : ASc) (ws : va_W) (args1 : List Value) : FrameBlind (va_Pc args1 (fun U => am_Wd k b scr U ∧ va_P k.2.1 am_cl ws U.heap)) := by
  intro a U g mk h
  exact ⟨h.1, h.2.1.blind a g mk, h.2.2⟩
theorem am_cnA {ci : Nat} {C : String} {T : u_T} {N : Nat} (h : am_cl[ci]? = some (C, T, N)) : ¬ C = "java/lang/AbstractStringBuilder" := by
  rw [← am_cn_ok h]
  exact (by decide : ∀ ci, ci < 12 → ¬ am_cn ci = "java/lang/AbstractStringBuilder") ci (am_cl_lt h)
section AMC
variable {p : Program} {l : Launch} {e : Env} {R : Room} {s : State} {m : MethodId} {args : Array Value} {below : List Frame} {meth : Method} {c : Code} {Q : State → Prop} {k : AK} {b nL : Nat} {as0 as : List Nat} {ws : va_W} {ls : ALs} {st : List Value} {h : AHp} {ls1 : Array Slot} {st1 : List Value} {H : Heap} {locs : List Loc} {cells slots pc : Nat} {S : ASt} {cc : ByteArray} {own nm : String} {scr : ASc}
theorem am_words {Y : AMe} (hY : am_okY Y) (hts : ∀ w ∈ am_T, w.before args s = true) : ∀ w ∈ am_cw Y :: am_T, ∀ (a1 : Array Value) (U : State), s.WarmedH U.vm → w.before a1 U = true := by
  intro w hw a1 U hW
  have h1 : w ∈ am_T := by
    rcases List.mem_cons.mp hw with q | q
    · rw [q]; exact hY.2.2.2.2
    · exact q
  exact word_at hW (good_of_word (am_T_good h1)) (hts w h1)
theorem am_npp {Y : AMe} (hY : am_okY Y) : ∀ sig, parseMethodDescriptor Y.1.desc = some sig → am_np Y = sig.parameters.length := by
  intro sig hs
  have h1 := hY.2.2.2.1
  rw [hs] at h1
  exact (Option.some.inj h1).symm
/-- behind a call -/
theorem sim_back {res : ARe} {rest st0 : List Value} {a : Array Value} (hr : vx_Run p l e R s m args below meth c H locs cells slots res.2.2.1 res.2.2.2 (F0 m pc ls1 st0) rest (am_Qr k b as res a) (am_Xr k b as res) (am_A k)) (hS : va_S (am_A k) s.heap H locs)
    (kk : ∀ (v w : Option Value) (as1 : List Nat) (ws1 : va_W) (H1 : Heap) (locs1 : List Loc), res.1 = .inl v → am_RO (am_X k b) as1 v w → (∃ u, as1 = as ++ u) → am_RW (am_X k b) k.2.2.1 as1 res.2.1 ws1 → va_P k.2.1 am_cl ws1 H1 → va_D (am_A k) ws1 → va_S (am_A k) s.heap H1 locs1 → W p l e R s m args below meth c H1 locs1 (cells + res.2.2.1) (slots + res.2.2.2) Q (F0 m (pc + 3) ls1 (w.toList ++ rest)))
    (kx : ∀ (i : Nat) (ce : Cell) (q9 : Addr) (as1 : List Nat) (ws1 : va_W) (H1 : Heap) (locs1 : List Loc), res.1 = .inr i → (∃ u, as1 = as ++ u) → am_RW (am_X k b) k.2.2.1 as1 res.2.1 ws1 → va_P k.2.1 am_cl ws1 H1 → va_D (am_A k) ws1 → va_S (am_A k) s.heap H1 locs1 → H1[q9]? = some ce → ce.vm = .none → s.vm.findClass (am_exn i) = some ce.cls → vx_W p l e R s m args below meth c H1 locs1 (cells + res.2.2.1) (slots + res.2.2.2) Q (F0 m pc ls1 rest) q9) :
    W p l e R s m args below meth c H locs cells slots Q (F0 m pc ls1 st0) := by
  intro T hT X
  rcases hr T hT X with ⟨v, st₀, t, T', L, h0, X', hL, e1, e2, hq, st⟩ | ⟨q, st₀, t, T', L, E, ce, h0, X', hL, e1, e2, hq, hce, hcv, hcl, st⟩
  · obtain ⟨ro, h1, kc, kn⟩ := res
    cases ro with
    | inr i => exact hq.elim
    | inl v0 =>
      obtain ⟨⟨w, as1, ws1, hv, hro, hu, hw, hP, hD⟩, hF⟩ := hq
      cases hv
      obtain ⟨k1, k2, k3⟩ := vx_keep h0 e1 hS (fun q _ z => z) (fun q z => z) hL hF
      obtain ⟨t2, a1, b1⟩ := kk v0 v as1 ws1 T'.heap (locs ++ L) rfl hro hu hw (by rw [e1]; exact hP) hD k3 T' rfl X'
      exact ⟨t2, st t2 a1, b1⟩
  · obtain ⟨ro, h1, kc, kn⟩ := res
    cases ro with
    | inl v0 => exact hq.elim
    | inr i =>
      obtain ⟨hE, ⟨as1, ws1, hu, hw, hP, hD⟩, hF⟩ := hq
      obtain ⟨k1, k2, k3⟩ := vx_keep h0 e1 hS (fun q _ z => z) (fun q z => z) hL hF
      obtain ⟨t2, a1, b1⟩ := kx i ce q as1 ws1 T'.heap (locs ++ L) rfl hu hw (by rw [e1]; exact hP) hD k3 (by rw [e1]; exact hce) hcv (by rw [← hE]; exact hcl) T' rfl X'
      exact ⟨t2, st.trans a1, b1⟩
/-- behind a call by an interface -/
theorem sim_back5 {res : ARe} {rest st0 : List Value} {a : Array Value} (hr : vx_Run5 p l e R s m args below meth c H locs cells slots res.2.2.1 res.2.2.2 (F0 m pc ls1 st0) rest (am_Qr k b as res a) (am_Xr k b as res) (am_A k)) (hS : va_S (am_A k) s.heap H locs)
    (kk : ∀ (v w : Option Value) (as1 : List Nat) (ws1 : va_W) (H1 : Heap) (locs1 : List Loc), res.1 = .inl v → am_RO (am_X k b) as1 v w → (∃ u, as1 = as ++ u) → am_RW (am_X k b) k.2.2.1 as1 res.2.1 ws1 → va_P k.2.1 am_cl ws1 H1 → va_D (am_A k) ws1 → va_S (am_A k) s.heap H1 locs1 → W p l e R s m args below meth c H1 locs1 (cells + res.2.2.1) (slots + res.2.2.2) Q (F0 m (pc + 5) ls1 (w.toList ++ rest)))
    (kx : ∀ (i : Nat) (ce : Cell) (q9 : Addr) (as1 : List Nat) (ws1 : va_W) (H1 : Heap) (locs1 : List Loc), res.1 = .inr i → (∃ u, as1 = as ++ u) → am_RW (am_X k b) k.2.2.1 as1 res.2.1 ws1 → va_P k.2.1 am_cl ws1 H1 → va_D (am_A k) ws1 → va_S (am_A k) s.heap H1 locs1 → H1[q9]? = some ce → ce.vm = .none → s.vm.findClass (am_exn i) = some ce.cls → vx_W p l e R s m args below meth c H1 locs1 (cells + res.2.2.1) (slots + res.2.2.2) Q (F0 m pc ls1 rest) q9) :
    W p l e R s m args below meth c H locs cells slots Q (F0 m pc ls1 st0) := by
  intro T hT X
  rcases hr T hT X with ⟨v, st₀, t, T', L, h0, X', hL, e1, e2, hq, st⟩ | ⟨q, st₀, t, T', L, E, ce, h0, X', hL, e1, e2, hq, hce, hcv, hcl, st⟩
  · obtain ⟨ro, h1, kc, kn⟩ := res
    cases ro with
    | inr i => exact hq.elim
    | inl v0 =>
      obtain ⟨⟨w, as1, ws1, hv, hro, hu, hw, hP, hD⟩, hF⟩ := hq
      cases hv
      obtain ⟨k1, k2, k3⟩ := vx_keep h0 e1 hS (fun q _ z => z) (fun q z => z) hL hF
      obtain ⟨t2, a1, b1⟩ := kk v0 v as1 ws1 T'.heap (locs ++ L) rfl hro hu hw (by rw [e1]; exact hP) hD k3 T' rfl X'
      exact ⟨t2, st t2 a1, b1⟩
  · obtain ⟨ro, h1, kc, kn⟩ := res
    cases ro with
    | inl v0 => exact hq.elim
    | inr i =>
      obtain ⟨hE, ⟨as1, ws1, hu, hw, hP, hD⟩, hF⟩ := hq
      obtain ⟨k1, k2, k3⟩ := vx_keep h0 e1 hS (fun q _ z => z) (fun q z => z) hL hF
      obtain ⟨t2, a1, b1⟩ := kx i ce q as1 ws1 T'.heap (locs ++ L) rfl hu hw (by rw [e1]; exact hP) hD k3 (by rw [e1]; exact hce) hcv (by rw [← hE]; exact hcl) T' rfl X'
      exact ⟨t2, st.trans a1, b1⟩
/-- a call -/
theorem sim_call {d d1 : Nat} {E : AEn} {J : List (Nat × Nat)} {Y : AMe} {avs arest : List Value} {res : ARe} (C : am_Cx p l R s m args meth c k b nL cc own nm scr d) (hd : d = d1 + 1) (hk : am_kind E.2.1 E.2.2.1 = 2) (hok : am_okE own nm cc E J = true) (hp : am_prog E.2.2.1 = some Y) (hY : am_okY Y) (hav : am_args E.2.2.2 st = some (avs, arest)) (hrv : am_recv E.2.1 E.2.2.1 Y.1.cls avs h = true)
    (hC : am_Ct l k b scr d1 Y avs h res) (hrc : cells + res.2.2.1 ≤ R.cells) (hrs : slots + res.2.2.2 ≤ R.slots) (Rl : am_Rel k (am_X k b) nL s as0 as ws ls st h ls1 st1 H locs)
    (kk : ∀ (v w : Option Value) (as1 : List Nat) (ws1 : va_W) (H1 : Heap) (locs1 : List Loc) (rest1 : List Value), res.1 = .inl v → am_RO (am_X k b) as1 v w → am_RS (am_X k b) as arest rest1 → (∃ u, as1 = as ++ u) → am_RW (am_X k b) k.2.2.1 as1 res.2.1 ws1 → va_P k.2.1 am_cl ws1 H1 → va_D (am_A k) ws1 → va_S (am_A k) s.heap H1 locs1 → W p l e R s m args below meth c H1 locs1 (cells + res.2.2.1) (slots + res.2.2.2) Q (F0 m (E.1 + am_nx E.2.1) ls1 (w.toList ++ rest1)))
    (kx : ∀ (i : Nat) (ce : Cell) (q9 : Addr) (as1 : List Nat) (ws1 : va_W) (H1 : Heap) (locs1 : List Loc) (rest1 : List Value), res.1 = .inr i → (∃ u, as1 = as ++ u) → am_RW (am_X k b) k.2.2.1 as1 res.2.1 ws1 → va_P k.2.1 am_cl ws1 H1 → va_D (am_A k) ws1 → va_S (am_A k) s.heap H1 locs1 → H1[q9]? = some ce → ce.vm = .none → s.vm.findClass (am_exn i) = some ce.cls → vx_W p l e R s m args below meth c H1 locs1 (cells + res.2.2.1) (slots + res.2.2.2) Q (F0 m E.1 ls1 rest1) q9) :
    W p l e R s m args below meth c H locs cells slots Q (F0 m E.1 ls1 st1) := by
  obtain ⟨pc, i, r1, r2⟩ := E
  obtain ⟨hx, hb, hml, hown, hts, hlocks, hnm, hWd, hd1, hd2, hd3, -⟩ := C
  obtain ⟨t, hl, hst, hw, hP, hD, hS⟩ := Rl
  simp only [am_okE, Bool.and_eq_true] at hok
  obtain ⟨hdc, hoi⟩ := hok
  have hdg := am_dec_ok hdc
  dsimp only at hdg hoi hk hp hav hrv kk kx ⊢
  unfold am_args at hav
  split at hav
  · next hlen =>
    cases hav
    obtain ⟨ht1, ht2⟩ := am_RS_take r2 hst
    have hrv1 := am_RS_reverse ht1
    have hlen1 : st1.length = st.length := am_RS_len hst
    have hsum : ((st1.drop r2).map fun v => v.category).sum ≤ 8 := by rw [am_RS_cat (am_X_ok k b) ht2]; exact hlen.2
    have hW8 := lv_room (m := m) (pc := pc) (ls := ls1) (rest := st1) hsum
    have hM := hC as ws (st1.take r2).reverse hrv1 hw hD
    have hws := am_words hY hts
    have hcwm : (am_cw Y).before args s = true := hts _ hY.2.2.2.2
    have hpre : ∀ U : State, U.heap = H → s.WarmedH U.vm → am_Wd k b scr U ∧ va_P k.2.1 am_cl ws U.heap := fun U hU hWU => ⟨hWd.go hS hU hWU, by rw [hU]; exact hP⟩
    have hbl := am_blind k b scr ws (st1.take r2).reverse
    have hfr : (am_rm d1 res).frames + 1 ≤ R.frames := by show d1 + 1 ≤ R.frames; omega
    have hlo : 8 + (Y.2.2.1 + 11) + (am_rm d1 res).locals ≤ R.locals := by
      have := hY.2.2.1
      show 8 + (Y.2.2.1 + 11) + 35 * d1 ≤ R.locals
      omega
    have hstk : st1 = (st1.take r2).reverse.reverse ++ st1.drop r2 := by rw [List.reverse_reverse, List.take_append_drop]
    have hnp := am_npp hY
    have hl0 : ls1.size = nL := hl.1
    have hNw := hWd.2.2.2.2.2.2.2.2.2.2.1
    have hWi : am_Wi s := hWd.2.2.2.2.2.2.2.2.2.2.2.2.2.2.1
    have fix : CallFix p m c cc nL s args am_T own := ⟨hx, hb, hml, hown, hts⟩
    have hcn : Y.2.2.2.2.2.1 = [] → am_cw Y = .code Y.1 Y.2.1 Y.2.2.1 Y.2.2.2.2.1 := fun q => by simp only [am_cw, q]
    cases i with
    | invokestatic idx =>
      have hr0 : ¬ (r1 = 900 ∨ r1 = 902 ∨ r1 = 903) := fun q => by simp only [am_kind, if_pos q] at hk; cases hk
      have hr1 : ¬ r1 = 900 := fun q => hr0 (Or.inl q)
      have hr2 : ¬ r1 = 902 := fun q => hr0 (Or.inr (Or.inl q))
      have hr3 : ¬ r1 = 903 := fun q => hr0 (Or.inr (Or.inr q))
      simp only [am_okI, if_neg hr1, if_neg hr2, if_neg hr3, hp, Bool.and_eq_true, Bool.or_eq_true, beq_iff_eq, decide_eq_true_eq] at hoi
      obtain ⟨⟨⟨o1, o2⟩, o3⟩, o4⟩ := hoi
      have hn : (st1.take r2).reverse.length = am_np Y := by rw [List.length_reverse, List.length_take, hlen1, ← o4]; exact Nat.min_eq_left hlen.1
      have hr : vx_Run p l e R s m args below meth c H locs cells slots res.2.2.1 res.2.2.2 (F0 m pc ls1 st1) (st1.drop r2) (am_Qr k b as res (st1.take r2).reverse.toArray) (am_Xr k b as res) (am_A k) := by
        rcases o1 with o1 | ⟨o1, hhs0⟩
        · cases hhs : Y.2.2.2.2.2.1 with
          | nil =>
            have hcw := hcn hhs
            exact vx_runS (n := am_np Y) (bytes := Y.2.1) (maxL := Y.2.2.1) (ret := Y.2.2.2.2.1) fix hM ⟨⟨rfl, rfl, hfr, hlo, hws, by rw [← hcw]; exact List.mem_cons_self, by rw [← hcw]; exact hcwm, hts _ (am_hs_in o3), hY.2.1, hnp, hts _ (am_hs_in o1)⟩, hts _ (am_hs_in o2)⟩ ⟨hbl, fun U hU hWU => ⟨rfl, hpre U hU hWU⟩⟩ rfl hn hl0 hstk hW8 hdg ⟨hrc, hrs⟩
          | cons q r =>
            have hcw : am_cw Y = .codeWith Y.1 Y.2.1 Y.2.2.1 Y.2.2.2.2.1 ((q :: r).map fun z => (z.1, z.2.1, z.2.2.1, z.2.2.2.1)) := by simp only [am_cw, hhs]
            exact vx_runSX (n := am_np Y) (bytes := Y.2.1) (maxL := Y.2.2.1) (ret := Y.2.2.2.2.1) (hh := (q :: r).map fun z => (z.1, z.2.1, z.2.2.1, z.2.2.2.1)) fix hM ⟨⟨rfl, rfl, hfr, hlo, hws, by rw [← hcw]; exact List.mem_cons_self⟩, by rw [← hcw]; exact hcwm, hts _ (am_hs_in o3), hY.2.1, hnp, hts _ (am_hs_in o1), hts _ (am_hs_in o2)⟩ ⟨hbl, fun U hU hWU => ⟨rfl, hpre U hU hWU⟩⟩ rfl hn hl0 hstk hW8 hdg ⟨hrc, hrs⟩
        · have hcw := hcn hhs0
          obtain ⟨host, hmem⟩ := am_okN_ok o1
          exact vx_runSN (n := am_np Y) (host := host) (bytes := Y.2.1) (maxL := Y.2.2.1) (ret := Y.2.2.2.2.1) fix hM ⟨⟨⟨rfl, rfl, hfr, hlo, hws, by rw [← hcw]; exact List.mem_cons_self⟩, by rw [← hcw]; exact hcwm, hts _ (am_hs_in o3), hY.2.1, hnp, va_Nw.use rfl (hNw _ hmem rfl)⟩, hts _ (am_hs_in o2), trivial⟩ ⟨hbl, fun U hU hWU => ⟨rfl, hpre U hU hWU⟩⟩ rfl hn hl0 hstk hW8 hdg ⟨hrc, hrs⟩
      exact sim_back hr hS (fun v w as1 ws1 H1 locs1 q1 q2 q3 q4 q5 q6 q7 => kk v w as1 ws1 H1 locs1 _ q1 q2 ht2 q3 q4 q5 q6 q7) (fun i ce q9 as1 ws1 H1 locs1 q1 q2 q3 q4 q5 q6 q7 q8 q10 => kx i ce q9 as1 ws1 H1 locs1 _ q1 q2 q3 q4 q5 q6 q7 q8 q10)
    | invokevirtual idx =>
      have hr0 : ¬ (r1 = 904 ∨ r1 = 905) := fun q => by simp only [am_kind, if_pos q] at hk; cases hk
      have hr4 : ¬ r1 = 904 := fun q => hr0 (Or.inl q)
      have hr5 : ¬ r1 = 905 := fun q => hr0 (Or.inr q)
      simp only [am_okI, if_neg hr4, if_neg hr5, hp, Bool.and_eq_true, beq_iff_eq, decide_eq_true_eq] at hoi
      obtain ⟨⟨⟨⟨o2, o4⟩, o5⟩, o6⟩, o7⟩ := hoi
      have hcw := hcn o6
      have hn1 : (st1.take r2).reverse.length = am_np Y + 1 := by rw [List.length_reverse, List.length_take, hlen1, ← o5]; exact Nat.min_eq_left hlen.1
      simp only [am_recv] at hrv
      split at hrv
      · next a0 avr heq =>
        rw [heq] at hrv1
        obtain ⟨w0, As, hAs, hw0, hAs2⟩ := am_RS_cons hrv1
        have hrec : ∃ b0 C, w0 = .ref b0 ∧ ¬ C = "java/lang/AbstractStringBuilder" ∧ (C = Y.1.cls ∨ (C = "java/lang/StringBuilder" ∧ Y.1.cls = "java/lang/AbstractStringBuilder")) ∧ ∃ cellB : Cell, H[b0]? = some cellB ∧ cellB.vm.isStatics = false ∧ s.vm.findClass C = some cellB.cls := by
          split at hrv
          · next ha0 =>
            obtain ⟨q0, hq0, rfl⟩ := am_RV_ref hw0 ha0
            split at hrv
            · next ci fs hcell =>
              obtain ⟨gs, hg, -⟩ := am_obj_at hw hcell hq0
              obtain ⟨⟨C, T, N⟩, hcl⟩ := am_P_cl hP hg
              obtain ⟨cell, z1, z2, z3⟩ := va_recv hWd.1 hP hcl hg
              have z4 : am_cn ci = Y.1.cls ∨ (ci = 9 ∧ Y.1.cls = "java/lang/AbstractStringBuilder") := of_decide_eq_true hrv
              rcases z4 with z4 | ⟨rfl, z5⟩
              · exact ⟨q0, C, rfl, am_cnA hcl, Or.inl (by rw [← z4, am_cn_ok hcl]), cell, z1, z2, z3⟩
              · cases hcl
                exact ⟨q0, _, rfl, by decide, Or.inr ⟨rfl, z5⟩, cell, z1, z2, z3⟩
            · cases hrv
          · next ha0 =>
            have z := of_decide_eq_true hrv
            have hw1 := am_X_txt z.1 (am_RV_ext hw0 ha0)
            obtain ⟨⟨cell, y1, y2, y3, y4⟩, -⟩ := hWd.2.2.1.1 ((a0 - (am_SB + 10)) / 2) (am_nt_lt z.1)
            have hlt : k.2.2.2.1 ((a0 - (am_SB + 10)) / 2) < s.heap.size := (Array.getElem?_eq_some_iff.mp y1).1
            exact ⟨_, _, hw1, (by decide : ¬ "java/lang/String" = "java/lang/AbstractStringBuilder"), Or.inl z.2.symm, cell, by rw [hS.2.1 _ hlt y4]; exact y1, y2, y3⟩
        obtain ⟨b0, C, rfl, hno, hC, hrcv⟩ := hrec
        rw [hAs] at hM hbl hstk hn1
        have hr : vx_Run p l e R s m args below meth c H locs cells slots res.2.2.1 res.2.2.2 (F0 m pc ls1 st1) (st1.drop r2) (am_Qr k b as res (Value.ref b0 :: As).toArray) (am_Xr k b as res) (am_A k) := by
          split at o7
          · simp only [Bool.and_eq_true, decide_eq_true_eq] at o7
            obtain ⟨⟨p1, p2⟩, p3⟩ := o7
            obtain rfl : C = Y.1.cls := hC.resolve_right (fun q => p3 q.2)
            exact vx_runV (n := am_np Y) (C := Y.1.cls) (bytes := Y.2.1) (maxL := Y.2.2.1) (ret := Y.2.2.2.2.1) fix hM ⟨⟨rfl, rfl, hfr, hlo, hws, by rw [← hcw]; exact List.mem_cons_self, by rw [← hcw]; exact hcwm, hts _ (am_hs_in o4), hY.2.1, hnp, hts _ (am_hs_in p1)⟩, hts _ (am_hs_in o2), hts _ (am_hs_in p2)⟩ ⟨hbl, hrcv, fun U hU hWU => ⟨rfl, hpre U hU hWU⟩⟩ rfl (by simpa using hn1) hl0 (hstk.trans (by simp)) hW8 hdg ⟨hrc, hrs⟩
          · simp only [Bool.and_eq_true, decide_eq_true_eq] at o7
            obtain ⟨p1, p2⟩ := o7
            obtain ⟨x, xb, xm, xr, e1, e2, l1, l2, l3, l4, l5⟩ := am_okU_ok p2
            have hCs : C = "java/lang/StringBuilder" := by
              rcases hC with rfl | ⟨q, -⟩
              · exact p1.resolve_right hno
              · exact q
            subst hCs
            obtain ⟨xc, xn, xd⟩ := x
            dsimp only at e1 e2
            subst e1
            refine vx_runU (n := am_np Y) (x := ⟨"java/lang/AbstractStringBuilder", xn, xd⟩) (C := "java/lang/StringBuilder") (owner := "java/lang/AbstractStringBuilder") (bytes := Y.2.1) (maxL := Y.2.2.1) (ret := Y.2.2.2.2.1) fix hM ⟨⟨rfl, rfl, hfr, hlo, hws, by rw [← hcw]; exact List.mem_cons_self⟩, by rw [← hcw]; exact hcwm, hts _ (am_hs_in o4), by decide, fun sig h => hnp sig (by rw [← e2]; exact h), hts _ l1, hts _ l3, va_Decl.of (hts _ l4) (hts _ l5), hts _ l2, hts _ (am_hs_in o2)⟩ ⟨hbl, hrcv, fun U hU hWU => ⟨rfl, hpre U hU hWU⟩⟩ rfl (by simpa using hn1) hl0 (hstk.trans (by simp)) hW8 hdg ⟨hrc, hrs⟩
        exact sim_back hr hS (fun v w as1 ws1 H1 locs1 q1 q2 q3 q4 q5 q6 q7 => kk v w as1 ws1 H1 locs1 _ q1 q2 ht2 q3 q4 q5 q6 q7) (fun i ce q9 as1 ws1 H1 locs1 q1 q2 q3 q4 q5 q6 q7 q8 q10 => kx i ce q9 as1 ws1 H1 locs1 _ q1 q2 q3 q4 q5 q6 q7 q8 q10)
      · cases hrv
    | invokeinterface idx cnt =>
      simp only [am_okI, hp, Bool.and_eq_true, beq_iff_eq, decide_eq_true_eq] at hoi
      obtain ⟨⟨⟨⟨⟨⟨o1, o2⟩, o3⟩, o4⟩, o5⟩, o6⟩, o7⟩ := hoi
      have hcw := hcn o7
      have hn1 : (st1.take r2).reverse.length = am_np Y + 1 := by rw [List.length_reverse, List.length_take, hlen1, ← o6]; exact Nat.min_eq_left hlen.1
      simp only [am_recv] at hrv
      split at hrv
      · next a0 avr heq =>
        rw [Bool.and_eq_true] at hrv
        obtain ⟨v1, v2⟩ := hrv
        have ha0 := of_decide_eq_true v1
        rw [heq] at hrv1
        obtain ⟨w0, As, hAs, hw0, hAs2⟩ := am_RS_cons hrv1
        obtain ⟨b0, hq0, rfl⟩ := am_RV_ref hw0 ha0
        have hcls : Y.1.cls = "java/util/ArrayList$Itr" := by rcases o5 with q | q <;> rw [q] <;> rfl
        split at v2
        · next ci fs hcell =>
          have z4 := of_decide_eq_true v2
          obtain ⟨gs, hg, -⟩ := am_obj_at hw hcell hq0
          obtain ⟨⟨C, T, N⟩, hcl⟩ := am_P_cl hP hg
          have hrcv := va_recv hWd.1 hP hcl hg
          have hC : C = "java/util/ArrayList$Itr" := by rw [← hcls, ← z4, am_cn_ok hcl]
          subst hC
          rw [hAs] at hM hbl hstk hn1
          have hFw : va_Fw "java/util/ArrayList$Itr" ⟨"java/util/Iterator", Y.1.name, Y.1.desc⟩ Y.1 s := by
            rcases o5 with q | q
            · rw [q]; exact hWi.2.2.2.1
            · rw [q]; exact hWi.2.2.2.2
          have hr : vx_Run5 p l e R s m args below meth c H locs cells slots res.2.2.1 res.2.2.2 (F0 m pc ls1 st1) (st1.drop r2) (am_Qr k b as res (Value.ref b0 :: As).toArray) (am_Xr k b as res) (am_A k) :=
            vx_runF (n := am_np Y) (cC := k.2.1.1 11) (x := ⟨"java/util/Iterator", Y.1.name, Y.1.desc⟩) (C := "java/util/ArrayList$Itr") (bytes := Y.2.1) (maxL := Y.2.2.1) (ret := Y.2.2.2.2.1) (hWd.1.1 11 _ rfl).2 fix hM ⟨⟨rfl, rfl, hfr, hlo, hws, by rw [← hcw]; exact List.mem_cons_self⟩, hts _ (am_hs_in o1), va_any rfl hFw.1, va_any rfl hFw.2.1, hts _ (am_hs_in o2), hts _ (am_hs_in o3), va_any rfl hFw.2.2.1, va_any rfl hFw.2.2.2.1, va_any rfl hFw.2.2.2.2, hts _ (am_hs_in o4), by rw [← hcw]; exact hcwm, (show "java/util/Iterator" ≠ "java/lang/invoke/MethodHandle" ∧ "java/util/Iterator" ≠ "java/lang/invoke/VarHandle" from by decide), hnp⟩ ⟨hbl, hrcv, fun U hU hWU => ⟨rfl, hpre U hU hWU⟩⟩ rfl (by simpa using hn1) hl0 (hstk.trans (by simp)) hW8 hdg ⟨hrc, hrs⟩
          exact sim_back5 hr hS (fun v w as1 ws1 H1 locs1 q1 q2 q3 q4 q5 q6 q7 => kk v w as1 ws1 H1 locs1 _ q1 q2 ht2 q3 q4 q5 q6 q7) (fun i ce q9 as1 ws1 H1 locs1 q1 q2 q3 q4 q5 q6 q7 q8 q10 => kx i ce q9 as1 ws1 H1 locs1 _ q1 q2 q3 q4 q5 q6 q7 q8 q10)
        · cases v2
      · cases hrv
    | invokespecial idx =>
      have hr1 : ¬ r1 = 901 := fun q => by simp only [am_kind, if_pos q] at hk; cases hk
      simp only [am_okI, if_neg hr1, hp, Bool.and_eq_true, Bool.or_eq_true, beq_iff_eq, decide_eq_true_eq] at hoi
      obtain ⟨⟨⟨⟨⟨o1, o2⟩, o3⟩, o4⟩, o5⟩, o6⟩ := hoi
      have hcw := hcn o5
      have hn1 : (st1.take r2).reverse.length = am_np Y + 1 := by rw [List.length_reverse, List.length_take, hlen1, ← o4]; exact Nat.min_eq_left hlen.1
      simp only [am_recv] at hrv
      split at hrv
      · next a0 avr heq =>
        have ha0 : a0 < am_SB := by
          split at hrv
          · rw [Bool.and_eq_true] at hrv; exact of_decide_eq_true hrv.1
          · exact of_decide_eq_true hrv
        rw [heq] at hrv1
        obtain ⟨w0, As, hAs, hw0, hAs2⟩ := am_RS_cons hrv1
        obtain ⟨b0, hq0, rfl⟩ := am_RV_ref hw0 ha0
        rw [hAs] at hM hbl hstk hn1
        have hr : vx_Run p l e R s m args below meth c H locs cells slots res.2.2.1 res.2.2.2 (F0 m pc ls1 st1) (st1.drop r2) (am_Qr k b as res (Value.ref b0 :: As).toArray) (am_Xr k b as res) (am_A k) := by
          split at o6
          · next h400 =>
            rw [if_pos h400, Bool.and_eq_true] at hrv
            obtain ⟨-, v2⟩ := hrv
            simp only [Bool.and_eq_true, bne_iff_ne, ne_eq] at o6
            obtain ⟨⟨⟨p1, p2⟩, p3⟩, p4⟩ := o6
            split at v2
            · next ci fs hcell =>
              obtain rfl := of_decide_eq_true v2
              obtain ⟨gs, hg, -⟩ := am_obj_at hw hcell hq0
              exact vx_runSU (n := am_np Y) (cC := k.2.1.1 9) (C := "java/lang/StringBuilder") (bytes := Y.2.1) (maxL := Y.2.2.1) (ret := Y.2.2.2.2.1) (hWd.1.1 9 _ rfl).2 fix hM ⟨⟨rfl, rfl, hfr, hlo, hws, by rw [← hcw]; exact List.mem_cons_self⟩, hts _ (am_hs_in p1), hts _ (am_hs_in p2), hts _ (am_hs_in p3), hts _ (am_hs_in o2), hts _ (am_hs_in o3), by rw [← hcw]; exact hcwm, p4, hnp⟩ ⟨hbl, va_recv hWd.1 hP rfl hg, fun U hU hWU => ⟨rfl, hpre U hU hWU⟩⟩ rfl (by simpa using hn1) hl0 (hstk.trans (by simp)) hW8 hdg ⟨hrc, hrs⟩
            · cases v2
          · simp only [Bool.and_eq_true, decide_eq_true_eq, beq_iff_eq] at o6
            obtain ⟨o6, o7⟩ := o6
            have hcw2 : am_cw Y = .code Y.1 Y.2.1 Y.2.2.1 none := by rw [hcw, o6]
            rcases o1 with o1 | o1
            · exact vx_runI (n := am_np Y) (bytes := Y.2.1) (maxL := Y.2.2.1) fix hM ⟨⟨rfl, rfl, hfr, hlo, hws, by rw [← hcw2]; exact List.mem_cons_self, by rw [← hcw2]; exact hcwm, hts _ (am_hs_in o3), hY.2.1, hnp, hts _ (am_hs_in o1)⟩, o7, hts _ (am_hs_in o2)⟩ ⟨hbl, fun U hU hWU => ⟨rfl, hpre U hU hWU⟩⟩ rfl (by simpa using hn1) hl0 (hstk.trans (by simp)) hW8 hdg ⟨hrc, hrs⟩
            · obtain ⟨host, hmem⟩ := am_okN_ok o1
              exact vx_runIN (n := am_np Y) (host := host) (bytes := Y.2.1) (maxL := Y.2.2.1) fix hM ⟨⟨⟨rfl, rfl, hfr, hlo, hws, by rw [← hcw2]; exact List.mem_cons_self⟩, by rw [← hcw2]; exact hcwm, hts _ (am_hs_in o3), hY.2.1, hnp, va_Nw.use rfl (hNw _ hmem rfl)⟩, o7, hts _ (am_hs_in o2)⟩ ⟨hbl, fun U hU hWU => ⟨rfl, hpre U hU hWU⟩⟩ rfl (by simpa using hn1) hl0 (hstk.trans (by simp)) hW8 hdg ⟨hrc, hrs⟩
        exact sim_back hr hS (fun v w as1 ws1 H1 locs1 q1 q2 q3 q4 q5 q6 q7 => kk v w as1 ws1 H1 locs1 _ q1 q2 ht2 q3 q4 q5 q6 q7) (fun i ce q9 as1 ws1 H1 locs1 q1 q2 q3 q4 q5 q6 q7 q8 q10 => kx i ce q9 as1 ws1 H1 locs1 _ q1 q2 q3 q4 q5 q6 q7 q8 q10)
      · cases hrv
    | new idx =>
      simp only [am_kind] at hk
      split at hk <;> cases hk
    | _ => cases hk
  · cases hav
end AMC
end
section
/-! ===== the simulation: throws ===== -/
theorem am_find_pc : ∀ {L : List AEn} {pc : Nat} {E : AEn}, am_find L pc = some E → E.1 = pc
  | [], _, _, h => by cases h
  | q :: L, pc, E, h => by
    unfold am_find at h
    split at h
    · next hq => cases h; exact hq
    · exact am_find_pc h
def am_xw (w : Jvm.Cond) : Bool := decide (w ∈ lw_tbl) && (goodWord w || am_isn w) && vx_ot w
theorem am_at0 : ∀ w ∈ vx_atS "PebbleProofs" (am_ic 0) (am_exn 0) am_xn, am_xw w = true := by decide +kernel
theorem am_at1 : ∀ w ∈ vx_atS "PebbleProofs" (am_ic 1) (am_exn 1) am_xn, am_xw w = true := by decide +kernel
theorem am_at2 : ∀ w ∈ vx_atS "PebbleProofs" (am_ic 2) (am_exn 2) am_xn, am_xw w = true := by decide +kernel
theorem am_ot (i : Nat) (hi : i < 3) (own : String) (ik : Nat) : vx_ot (Jvm.Cond.classLink own ik (am_exn i)) = true ∧ vx_ot (Jvm.Cond.initialized (am_exn i)) = true := ⟨rfl, rfl⟩
theorem am_isn_tab {w : Jvm.Cond} (h : am_isn w = true) : w.onTables = true := by
  cases w <;> first | rfl | cases h
section AMT
variable {p : Program} {l : Launch} {e : Env} {R : Room} {s : State} {m : MethodId} {args : Array Value} {below : List Frame} {meth : Method} {c : Code} {Q : State → Prop} {k : AK} {b nL : Nat} {as0 as : List Nat} {ws : va_W} {ls : ALs} {st : List Value} {h : AHp} {ls1 : Array Slot} {st1 : List Value} {H : Heap} {locs : List Loc} {cells slots pc : Nat} {S : ASt} {cc : ByteArray} {own nm : String} {scr : ASc}
theorem am_throw_ok {i : Nat} (hts : ∀ w ∈ am_T, w.before args s = true) (hWd : am_Wd k b scr s) (h : ∀ w ∈ vx_atS "PebbleProofs" (am_ic i) (am_exn i) am_xn, am_xw w = true) : (∀ w ∈ vx_atS "PebbleProofs" (am_ic i) (am_exn i) am_xn, w.before args s = true) ∧ ∀ w ∈ vx_atS "PebbleProofs" (am_ic i) (am_exn i) am_xn, vx_ot w = true := by
  refine ⟨fun w hw => ?_, fun w hw => ?_⟩
  · have h1 := h w hw
    simp only [am_xw, Bool.and_eq_true, Bool.or_eq_true, decide_eq_true_eq] at h1
    rcases h1.1.2 with q | q
    · exact hts w (am_T_in h1.1.1 q)
    · exact va_Nw.use (am_isn_tab q) (hWd.2.2.2.2.2.2.2.2.2.2.1 w h1.1.1 q)
  · have h1 := h w hw
    simp only [am_xw, Bool.and_eq_true] at h1
    exact h1.2
theorem sim_throw {d : Nat} {E : AEn} {J : List (Nat × Nat)} {res : ARe} (C : am_Cx p l R s m args meth c k b nL cc own nm scr d) (hk : am_kind E.2.1 E.2.2.1 = 3) (hok : am_okE own nm cc E J = true) (h7 : 7 ≤ d) (h5 : E.2.2.2 < 3) (hsum : (st.map Value.category).sum ≤ 8) (hout : ∀ x ∈ c.exceptionTable.toList, False)
    (hres : res = (.inr E.2.2.2, h, cells + 1, slots + 6)) (hrc : cells + 1 ≤ R.cells) (hrs : slots + 6 ≤ R.slots) (Rl : am_Rel k (am_X k b) nL s as0 as ws ls st h ls1 st1 H locs) :
    W p l e R s m args below meth c H locs cells slots (vx_MQ below (am_Qr k b as0 res) (am_Xr k b as0 res) args s res.2.2.1 res.2.2.2 (am_A k)) (F0 m E.1 ls1 st1) := by
  obtain ⟨pc, i, r1, r2⟩ := E
  obtain ⟨hx, hb, hml, hown, hts, hlocks, hnm, hWd, hd1, hd2, hd3, hlt⟩ := C
  obtain ⟨t, hl, hst, hw, hP, hD, hS⟩ := Rl
  simp only [am_okE, Bool.and_eq_true] at hok
  obtain ⟨hdc, hoi⟩ := hok
  have hdg := am_dec_ok hdc
  dsimp only at hdg hoi hk h5 hres ⊢
  cases i with
  | new idx =>
    have hr1 : r1 = 1000 := by
      by_cases q : r1 = 1000
      · exact q
      · simp only [am_kind, if_neg q] at hk; cases hk
    simp only [am_okI, if_pos hr1, am_okT, Bool.and_eq_true] at hoi
    obtain ⟨⟨⟨o1, o2⟩, o3⟩, o4⟩ := hoi
    have d3 := am_dec_ok o3
    have hsz : ls1.size = c.maxLocals := by rw [hml]; exact hl.1
    have hs8 : (st1.map fun v => v.category).sum ≤ 8 := by rw [am_RS_cat (am_X_ok k b) hst]; exact hsum
    have hxx : ∀ u : State, s.vm.Alike u.vm → H.size ≤ u.heap.size → (∀ q : Nat, q < H.size → u.heap[q]? = H[q]?) → am_Xr k b as0 res (am_exn r2) s u := by
      intro u _ h1 h2
      rw [hres]
      exact ⟨rfl, ⟨as, ws, t, hw, va_P.kept hP (fun kk q hq => h2 q.1 (hP kk q hq).lt), hD⟩, Nat.le_trans hS.1 h1, fun q q1 q2 => by rw [h2 q (Nat.lt_of_lt_of_le q1 hS.1)]; exact hS.2.1 q q1 q2⟩
    have hc1 : cells + 1 ≤ res.2.2.1 := by rw [hres]; exact Nat.le_refl _
    have hc2 : slots + 6 ≤ res.2.2.2 := by rw [hres]; exact Nat.le_refl _
    have hol : ∀ z ∈ locs, am_A k z.base := hS.2.2
    split at o4
    · next is o1x ix tx hd4 hwd =>
      simp only [Bool.and_eq_true, decide_eq_true_eq, beq_iff_eq] at o4
      obtain ⟨⟨⟨rfl, rfl⟩, o5⟩, o6⟩ := o4
      split at o6
      · next ic hd6 =>
        simp only [Bool.and_eq_true, decide_eq_true_eq, beq_iff_eq] at o6
        obtain ⟨hpp, rfl⟩ := o6
        subst hpp
        obtain ⟨sa, hsa⟩ := hWd.2.2.2.2.2.2.2.2.2.2.2.1 _ _ _ (am_wd_in hwd)
        have go : ∀ i, i = r2 → (∀ w ∈ vx_atS "PebbleProofs" (am_ic i) (am_exn i) am_xn, am_xw w = true) → Bundle.fit (am_exn i) = true → W p l e R s m args below meth c H locs cells slots (vx_MQ below (am_Qr k b as0 res) (am_Xr k b as0 res) args s res.2.2.1 res.2.2.2 (am_A k)) (F0 m pc ls1 st1) := by
          intro i hi hat hfit
          subst hi
          obtain ⟨a1, a2⟩ := am_throw_ok (i := i) hts hWd hat
          refine vx_throwS (A := am_A k) (names := am_xn) hx hb hlt hown hfit (by decide +kernel) (hts _ (am_hs_in o1)) (hts _ (am_hs_in o2)) hsa a1 (fun w hw => ?_) hWd.2.2.2.2.2.2.1 hWd.2.2.2.2.2.2.2.1 hS hsz hdg d3 hd4 hd6 (am_dec_ok o5) (fun x hx => (hout x hx).elim) (by show 2 + 3 < R.frames; omega) (by show (st1.map fun v => v.category).sum + (13 * 3 + 43) ≤ R.locals; omega) hrc hrs hlocks hxx hol hc1 hc2
          rcases List.mem_cons.mp hw with q | q
          · rw [q]; rfl
          · rcases List.mem_cons.mp q with q | q
            · rw [q]; rfl
            · exact a2 w q
        match r2, h5 with
        | 0, _ => exact go 0 rfl am_at0 (by decide +kernel)
        | 1, _ => exact go 1 rfl am_at1 (by decide +kernel)
        | 2, _ => exact go 2 rfl am_at2 (by decide +kernel)
      · cases o6
    · next is o1x ix tx hd4 hwd =>
      simp only [Bool.and_eq_true, decide_eq_true_eq, beq_iff_eq] at o4
      obtain ⟨⟨⟨rfl, rfl⟩, o5⟩, o6⟩ := o4
      split at o6
      · next ic hd6 =>
        simp only [Bool.and_eq_true, decide_eq_true_eq, beq_iff_eq] at o6
        obtain ⟨hpp, rfl⟩ := o6
        subst hpp
        obtain ⟨sa, hsa⟩ := hWd.2.2.2.2.2.2.2.2.2.2.2.1 _ _ _ (am_wd_in hwd)
        have go : ∀ i, i = r2 → (∀ w ∈ vx_atS "PebbleProofs" (am_ic i) (am_exn i) am_xn, am_xw w = true) → Bundle.fit (am_exn i) = true → W p l e R s m args below meth c H locs cells slots (vx_MQ below (am_Qr k b as0 res) (am_Xr k b as0 res) args s res.2.2.1 res.2.2.2 (am_A k)) (F0 m pc ls1 st1) := by
          intro i hi hat hfit
          subst hi
          obtain ⟨a1, a2⟩ := am_throw_ok (i := i) hts hWd hat
          refine vx_throwSW (A := am_A k) (names := am_xn) hx hb hlt hown hfit (by decide +kernel) (hts _ (am_hs_in o1)) (hts _ (am_hs_in o2)) hsa a1 (fun w hw => ?_) hWd.2.2.2.2.2.2.1 hWd.2.2.2.2.2.2.2.1 hS hsz hdg d3 hd4 hd6 (am_dec_ok o5) (fun x hx => (hout x hx).elim) (by show 2 + 3 < R.frames; omega) (by show (st1.map fun v => v.category).sum + (13 * 3 + 43) ≤ R.locals; omega) hrc hrs hlocks hxx hol hc1 hc2
          rcases List.mem_cons.mp hw with q | q
          · rw [q]; rfl
          · rcases List.mem_cons.mp q with q | q
            · rw [q]; rfl
            · exact a2 w q
        match r2, h5 with
        | 0, _ => exact go 0 rfl am_at0 (by decide +kernel)
        | 1, _ => exact go 1 rfl am_at1 (by decide +kernel)
        | 2, _ => exact go 2 rfl am_at2 (by decide +kernel)
      · cases o6
    · cases o4
  | _ =>
    simp only [am_kind] at hk
    try split at hk
    all_goals cases hk
end AMT
end
section
/-! ===== the simulation: a whole frame, a whole call ===== -/
theorem am_kind_le (i : Instr) (r : Nat) : am_kind i r ≤ 3 := by
  unfold am_kind
  split <;> (try split) <;> decide
/-- a step of the abstract machine, backwards -/
theorem am_exec_inv {cf : Nat → List Value → AHp → Option ARe} {M : AMe} {d : Nat} {scr : ASc} {f pc : Nat} {ls : ALs} {st : List Value} {h : AHp} {k n : Nat} {res : ARe} (hr : am_exec cf M d scr (f + 1) (pc, ls, st, h, k, n) = some res) :
    ∃ E, am_find M.2.2.2.2.2.2 pc = some E ∧
      ((am_kind E.2.1 E.2.2.1 = 0 ∧ ∃ S : ASt, am_step scr E ls st h = some S ∧ am_exec cf M d scr f (S.1, S.2.1, S.2.2.1, S.2.2.2.1, k + S.2.2.2.2.1, n + S.2.2.2.2.2) = some res) ∨
       (am_kind E.2.1 E.2.2.1 = 1 ∧ ∃ v, am_ret M.2.2.2.2.1 E.2.1 st = some v ∧ res = (.inl v, h, k, n)) ∨
       (am_kind E.2.1 E.2.2.1 = 2 ∧ ∃ as rest Y res1, am_args E.2.2.2 st = some (as, rest) ∧ am_prog E.2.2.1 = some Y ∧ am_recv E.2.1 E.2.2.1 Y.1.cls as h = true ∧ cf E.2.2.1 as h = some res1 ∧
         ((∃ v, res1.1 = .inl v ∧ am_exec cf M d scr f (pc + am_nx E.2.1, ls, v.toList ++ rest, res1.2.1, k + res1.2.2.1, n + res1.2.2.2) = some res) ∨
          (∃ X, res1.1 = .inr X ∧ M.2.2.2.2.2.1 = [] ∧ res = (.inr X, res1.2.1, k + res1.2.2.1, n + res1.2.2.2)) ∨
          (∃ X hp pc2 ls2, res1.1 = .inr X ∧ am_hand M.2.2.2.2.2.1 pc X = some hp ∧ am_land M hp ls = some (pc2, ls2) ∧ am_exec cf M d scr f (pc2, ls2, [], res1.2.1, k + res1.2.2.1, n + res1.2.2.2) = some res))) ∨
       (am_kind E.2.1 E.2.2.1 = 3 ∧ 7 ≤ d ∧ E.2.2.2 < 3 ∧ (st.map Value.category).sum ≤ 8 ∧ M.2.2.2.2.2.1 = [] ∧ res = (.inr E.2.2.2, h, k + 1, n + 6))) := by
  unfold am_exec at hr
  split at hr
  · cases hr
  · next E hE =>
    refine ⟨E, hE, ?_⟩
    split at hr
    · next hk =>
      split at hr
      · cases hr
      · next S hS => exact Or.inl ⟨hk, _, hS, hr⟩
    · next hk =>
      split at hr
      · cases hr
      · next v hv =>
        cases hr
        exact Or.inr (Or.inl ⟨hk, v, hv, rfl⟩)
    · next hk =>
      split at hr
      · next as rest Y hav hp =>
        split at hr
        · next hrv =>
          split at hr
          · cases hr
          · next v h1 dk dn hcf => exact Or.inr (Or.inr (Or.inl ⟨hk, as, rest, Y, _, hav, hp, hrv, hcf, Or.inl ⟨v, rfl, hr⟩⟩))
          · next X h1 dk dn hcf =>
            split at hr
            · next hhs =>
              cases hr
              exact Or.inr (Or.inr (Or.inl ⟨hk, as, rest, Y, _, hav, hp, hrv, hcf, Or.inr (Or.inl ⟨X, rfl, hhs, rfl⟩)⟩))
            · next q l hhs =>
              split at hr
              · cases hr
              · next hp1 hh =>
                split at hr
                · cases hr
                · next pc2 ls2 hl2 => exact Or.inr (Or.inr (Or.inl ⟨hk, as, rest, Y, _, hav, hp, hrv, hcf, Or.inr (Or.inr ⟨X, hp1, pc2, ls2, rfl, by rw [hhs]; exact hh, hl2, hr⟩)⟩))
        · cases hr
      · cases hr
    · next h0 h1 h2 =>
      split at hr
      · next hq =>
        cases hr
        refine Or.inr (Or.inr (Or.inr ⟨?_, hq.1, hq.2.1, hq.2.2.1, hq.2.2.2, rfl⟩))
        have q0 : ¬ am_kind E.2.1 E.2.2.1 = 0 := fun q => h0 q
        have q1 : ¬ am_kind E.2.1 E.2.2.1 = 1 := fun q => h1 q
        have q2 : ¬ am_kind E.2.1 E.2.2.1 = 2 := fun q => h2 q
        have := am_kind_le E.2.1 E.2.2.1
        omega
      · cases hr
theorem am_exec_mono {cf : Nat → List Value → AHp → Option ARe} {M : AMe} {d : Nat} {scr : ASc} {res : ARe} : ∀ (f pc : Nat) (ls : ALs) (st : List Value) (h : AHp) (k n : Nat), am_exec cf M d scr f (pc, ls, st, h, k, n) = some res → k ≤ res.2.2.1 ∧ n ≤ res.2.2.2
  | 0, _, _, _, _, _, _, hr => by cases hr
  | f + 1, pc, ls, st, h, k, n, hr => by
    obtain ⟨E, -, ⟨-, S, -, h1⟩ | ⟨-, v, -, h1⟩ | ⟨-, as, rest, Y, res1, -, -, -, -, ⟨v, -, h1⟩ | ⟨X, -, -, h1⟩ | ⟨X, hp, pc2, ls2, -, -, -, h1⟩⟩ | ⟨-, -, -, -, -, h1⟩⟩ := am_exec_inv hr
    · have h2 := am_exec_mono f _ _ _ _ _ _ h1
      exact ⟨by omega, by omega⟩
    · subst h1; exact ⟨Nat.le_refl _, Nat.le_refl _⟩
    · have h2 := am_exec_mono f _ _ _ _ _ _ h1
      exact ⟨by omega, by omega⟩
    · subst h1; exact ⟨Nat.le_add_right _ _, Nat.le_add_right _ _⟩
    · have h2 := am_exec_mono f _ _ _ _ _ _ h1
      exact ⟨by omega, by omega⟩
    · subst h1; exact ⟨Nat.le_add_right _ _, Nat.le_add_right _ _⟩
theorem am_hand_spec : ∀ {L : List (Nat × Nat × Nat × Nat × Nat)} {pc X hp : Nat}, am_hand L pc X = some hp → ∃ pre q suf, L = pre ++ q :: suf ∧ q.1 ≤ pc ∧ pc < q.2.1 ∧ q.2.2.2.2 = X ∧ q.2.2.1 = hp ∧ ∀ z ∈ pre, ¬ (z.1 ≤ pc ∧ pc < z.2.1 ∧ z.2.2.2.2 = X)
  | [], _, _, _, h => by cases h
  | (a, b, hp0, ix, j) :: L, pc, X, hp, h => by
    unfold am_hand at h
    split at h
    · next hq =>
      cases h
      exact ⟨[], (a, b, hp0, ix, j), L, rfl, hq.1, hq.2.1, hq.2.2, rfl, fun z hz => by cases hz⟩
    · next hq =>
      obtain ⟨pre, q, suf, h1, h2, h3, h4, h5, h6⟩ := am_hand_spec h
      refine ⟨(a, b, hp0, ix, j) :: pre, q, suf, by rw [h1]; rfl, h2, h3, h4, h5, fun z hz => ?_⟩
      rcases List.mem_cons.mp hz with rfl | hz
      · exact hq
      · exact h6 z hz
theorem am_casts : ∀ i, i < 3 → Jvm.Cond.castable (am_exn i) (am_exn i) ∈ lw_tbl := by decide +kernel
section AMX
variable {p : Program} {l : Launch} {e : Env} {R : Room} {s : State} {m : MethodId} {args : Array Value} {below : List Frame} {meth : Method} {c : Code} {Q : State → Prop} {k : AK} {b nL : Nat} {as0 as : List Nat} {ws : va_W} {ls : ALs} {st : List Value} {h : AHp} {ls1 : Array Slot} {st1 : List Value} {H : Heap} {locs : List Loc} {cells slots pc : Nat} {scr : ASc}
/-- a frame runs as the abstract one does; how it ends is told by three callbacks -/
theorem sim_exec {cf : Nat → List Value → AHp → Option ARe} {M : AMe} {d d1 : Nat} {res : ARe} (C : am_Cx p l R s m args meth c k b M.2.2.1 M.2.1 M.1.cls M.1.name scr d) (hd : d = d1 + 1) (hB : am_okB M) (hH : am_okH M) (hTab : M.2.2.2.2.2.1 = [] ∨ c.exceptionTable.toList = tableOf (M.2.2.2.2.2.1.map fun z => (z.1, z.2.1, z.2.2.1, z.2.2.2.1)))
    (hYs : ∀ mi Y, am_prog mi = some Y → am_okY Y) (hcf : ∀ mi Y vs h1 res1, am_prog mi = some Y → cf mi vs h1 = some res1 → am_Ct l k b scr d1 Y vs h1 res1)
    (hk : res.2.2.1 ≤ R.cells) (hn : res.2.2.2 ≤ R.slots)
    (hR : ∀ (pc : Nat) (i : Instr) (ls : ALs) (st : List Value) (h : AHp) (v : Option Value) (as : List Nat) (ws : va_W) (ls1 : Array Slot) (st1 : List Value) (H : Heap) (locs : List Loc), decode M.2.1 pc = .ok (i, am_len i) → am_kind i 0 = 1 → am_ret M.2.2.2.2.1 i st = some v → res = (.inl v, h, res.2.2.1, res.2.2.2) → am_Rel k (am_X k b) M.2.2.1 s as0 as ws ls st h ls1 st1 H locs → W p l e R s m args below meth c H locs res.2.2.1 res.2.2.2 Q (F0 m pc ls1 st1))
    (hT : ∀ (E : AEn) (J : List (Nat × Nat)) (ls : ALs) (st : List Value) (h : AHp) (cells slots : Nat) (as : List Nat) (ws : va_W) (ls1 : Array Slot) (st1 : List Value) (H : Heap) (locs : List Loc), am_kind E.2.1 E.2.2.1 = 3 → am_okE M.1.cls M.1.name M.2.1 E J = true → 7 ≤ d → E.2.2.2 < 3 → (st.map Value.category).sum ≤ 8 → M.2.2.2.2.2.1 = [] → res = (.inr E.2.2.2, h, cells + 1, slots + 6) → am_Rel k (am_X k b) M.2.2.1 s as0 as ws ls st h ls1 st1 H locs → W p l e R s m args below meth c H locs cells slots Q (F0 m E.1 ls1 st1))
    (hU : ∀ (pc X : Nat) (h : AHp) (ce : Cell) (q9 : Addr) (as : List Nat) (ws : va_W) (ls1 : Array Slot) (H : Heap) (locs : List Loc) (rest1 : List Value), M.2.2.2.2.2.1 = [] → res = (.inr X, h, res.2.2.1, res.2.2.2) → (∃ u, as = as0 ++ u) → am_RW (am_X k b) k.2.2.1 as h ws → va_P k.2.1 am_cl ws H → va_D (am_A k) ws → va_S (am_A k) s.heap H locs → H[q9]? = some ce → ce.vm = .none → s.vm.findClass (am_exn X) = some ce.cls → vx_W p l e R s m args below meth c H locs res.2.2.1 res.2.2.2 Q (F0 m pc ls1 rest1) q9) :
    ∀ (f pc : Nat) (ls : ALs) (st : List Value) (h : AHp) (cells slots : Nat), am_exec cf M d scr f (pc, ls, st, h, cells, slots) = some res → ∀ (as : List Nat) (ws : va_W) (ls1 : Array Slot) (st1 : List Value) (H : Heap) (locs : List Loc), am_Rel k (am_X k b) M.2.2.1 s as0 as ws ls st h ls1 st1 H locs → W p l e R s m args below meth c H locs cells slots Q (F0 m pc ls1 st1) := by
  intro f
  induction f with
  | zero => intro pc ls st h cells slots hr; cases hr
  | succ f ih =>
    intro pc ls st h cells slots hr as ws ls1 st1 H locs Rl
    obtain ⟨E, hE, hcase⟩ := am_exec_inv hr
    have hpc := am_find_pc hE
    obtain ⟨J, hJ⟩ := hB pc E hE
    subst hpc
    rcases hcase with ⟨hk0, S, hS, h1⟩ | ⟨hk1, v, hv, h1⟩ | ⟨hk2, avs, rest, Y, res1, hav, hp, hrv, hcf1, hsub⟩ | ⟨hk3, h7, h5, hsum, hhs, h1⟩
    · have hm := am_exec_mono f _ _ _ _ _ _ h1
      exact sim_step C hk0 hJ hS (Nat.le_trans hm.1 hk) (Nat.le_trans hm.2 hn) Rl (fun as2 ws2 ls2 st2 H2 locs2 Rl2 => ih _ _ _ _ _ _ h1 as2 ws2 ls2 st2 H2 locs2 Rl2)
    · simp only [am_okE, Bool.and_eq_true] at hJ
      have hdg := am_dec_ok hJ.1
      have hdg2 : decode M.2.1 E.1 = .ok (E.2.1, am_len E.2.1) := by
        rw [hdg]
        split
        · next q => rw [q] at hk1; cases hk1
        · rfl
      have hk10 : am_kind E.2.1 0 = 1 := by
        unfold am_kind at hk1 ⊢
        split at hk1 <;> first | rfl | (split at hk1 <;> cases hk1) | cases hk1
      have e1 : cells = res.2.2.1 := by rw [h1]
      have e2 : slots = res.2.2.2 := by rw [h1]
      rw [e1, e2]
      exact hR E.1 E.2.1 ls st h v as ws ls1 st1 H locs hdg2 hk10 hv (by rw [← e1, ← e2]; exact h1) Rl
    · have hY := hYs _ _ hp
      have hCt := hcf _ _ _ _ _ hp hcf1
      have hm : cells + res1.2.2.1 ≤ res.2.2.1 ∧ slots + res1.2.2.2 ≤ res.2.2.2 := by
        rcases hsub with ⟨v, -, h1⟩ | ⟨X, -, -, h1⟩ | ⟨X, hp, pc2, ls2, -, -, -, h1⟩
        · exact am_exec_mono f _ _ _ _ _ _ h1
        · rw [h1]; exact ⟨Nat.le_refl _, Nat.le_refl _⟩
        · exact am_exec_mono f _ _ _ _ _ _ h1
      obtain ⟨⟨t0, ht0⟩, hl, -⟩ := id Rl
      refine sim_call C hd hk2 hJ hp hY hav hrv hCt (Nat.le_trans hm.1 hk) (Nat.le_trans hm.2 hn) Rl (fun v w as1 ws1 H1 locs1 rest1 q1 q2 q3 q4 q5 q6 q7 q8 => ?_) (fun i ce q9 as1 ws1 H1 locs1 rest1 q1 q4 q5 q6 q7 q8 q10 q11 q12 => ?_)
      · rcases hsub with ⟨v2, z1, h1⟩ | ⟨X, z1, -, h1⟩ | ⟨X, hp, pc2, ls2, z1, -, -, h1⟩
        · rw [q1] at z1
          cases z1
          obtain ⟨u, rfl⟩ := q4
          refine ih _ _ _ _ _ _ h1 (as ++ u) ws1 ls1 _ H1 locs1 ⟨⟨t0 ++ u, by rw [ht0, List.append_assoc]⟩, am_RL_app hl, ?_, q5, q6, q7, q8⟩
          cases v with
          | none =>
            cases w with
            | none => exact am_RS_app q3
            | some w => exact q2.elim
          | some v =>
            cases w with
            | none => exact q2.elim
            | some w => exact ⟨q2, am_RS_app q3⟩
        · rw [q1] at z1; cases z1
        · rw [q1] at z1; cases z1
      · rcases hsub with ⟨v2, z1, h1⟩ | ⟨X, z1, hhs, h1⟩ | ⟨X, hp1, pc2, ls2, z1, hh, hl2, h1⟩
        · rw [q1] at z1; cases z1
        · rw [q1] at z1
          cases z1
          obtain ⟨u, rfl⟩ := q4
          have e1 : cells + res1.2.2.1 = res.2.2.1 := by rw [h1]
          have e2 : slots + res1.2.2.2 = res.2.2.2 := by rw [h1]
          rw [e1, e2]
          exact hU E.1 i res1.2.1 ce q9 (as ++ u) ws1 ls1 H1 locs1 rest1 hhs (by rw [← e1, ← e2]; exact h1) ⟨t0 ++ u, by rw [ht0, List.append_assoc]⟩ q5 q6 q7 q8 q10 q11 q12
        · rw [q1] at z1
          cases z1
          obtain ⟨u, rfl⟩ := q4
          obtain ⟨pre, q, suf, g1, g2, g3, g4, g5, g6⟩ := am_hand_spec hh
          have hTab : c.exceptionTable.toList = tableOf (M.2.2.2.2.2.1.map fun z => (z.1, z.2.1, z.2.2.1, z.2.2.2.1)) := hTab.resolve_left (fun q0 => by rw [q0] at g1; simp at g1)
          have hmem : q ∈ M.2.2.2.2.2.1 := by rw [g1]; exact List.mem_append.mpr (Or.inr List.mem_cons_self)
          obtain ⟨o1, o2, o3⟩ := hH q hmem
          have hi5 : i < 3 := by rw [← g4]; exact o1
          have hWd := C.2.2.2.2.2.2.2.1
          have hown := C.2.2.2.1
          have hts := C.2.2.2.2.1
          have hx := C.1
          have hb := C.2.1
          refine vx_catch (own := M.1.cls) (name := am_exn q.2.2.2.2) (E := am_exn i) hown (pre.map fun z => (⟨z.1, z.2.1, z.2.2.1, z.2.2.2.1⟩ : ExceptionTableEntry)) ⟨q.1, q.2.1, q.2.2.1, q.2.2.2.1⟩ (suf.map fun z => (⟨z.1, z.2.1, z.2.2.1, z.2.2.2.1⟩ : ExceptionTableEntry)) (by rw [hTab, g1, tableOf]; simp [List.map_append, Function.comp_def]) (fun z hz => ?_) (by simp only [covers, Bool.and_eq_true, decide_eq_true_eq]; exact ⟨g2, g3⟩) o2 (hts _ o3) (va_Nw.use rfl (by rw [g4]; exact hWd.2.2.2.2.2.2.2.2.2.2.1 _ (am_casts i hi5) rfl)) q10 q11 q12 ?_
          · obtain ⟨z0, hz0, rfl⟩ := List.mem_map.mp hz
            have hzm : z0 ∈ M.2.2.2.2.2.1 := by rw [g1]; exact List.mem_append.mpr (Or.inl hz0)
            obtain ⟨r1, r2, r3⟩ := hH z0 hzm
            by_cases hcv : z0.1 ≤ E.1 ∧ E.1 < z0.2.1
            · refine Or.inr ⟨r2, am_exn z0.2.2.2.2, hts _ r3, ?_⟩
              have hne : ¬ i = z0.2.2.2.2 := fun q => g6 z0 hz0 ⟨hcv.1, hcv.2, q.symm⟩
              exact hWd.2.2.2.2.2.2.2.2.2.2.2.2.1 i z0.2.2.2.2 hi5 r1 hne
            · refine Or.inl ?_
              simp only [covers, Bool.and_eq_false_iff, decide_eq_false_iff_not]
              by_cases q : z0.1 ≤ E.1
              · exact Or.inr (fun z => hcv ⟨q, z⟩)
              · exact Or.inl q
          · show W p l e R s m args below meth c H1 locs1 _ _ Q (F0 m q.2.2.1 ls1 [.ref q9])
            rw [g5]
            have hl3 : am_RL (am_X k b) (as ++ u) M.2.2.1 ls ls1 := am_RL_app hl
            have hXo := am_X_ok k b
            unfold am_land at hl2
            split at hl2
            · next n r1 r2 hf2 =>
              split at hl2
              · next hlt =>
                cases hl2
                obtain ⟨J2, hJ2⟩ := hB hp1 _ hf2
                have hpc2 := am_find_pc hf2
                simp only [am_okE, Bool.and_eq_true] at hJ2
                have hdg2 := am_dec_ok hJ2.1
                dsimp only at hpc2 hdg2
                subst hpc2
                exact lv_astore_n hx hb hdg2 rfl (am_full_has hl3.1 hl3.2.2.1) (by rw [← hl3.2.1]; exact hlt) rfl (fun ls4 h4 => ih _ _ _ _ _ _ h1 (as ++ u) ws1 ls4 [] H1 locs1 ⟨⟨t0 ++ u, by rw [ht0, List.append_assoc]⟩, am_RL_clr hXo hl3 hlt h4, trivial, q5, q6, q7, q8⟩)
              · cases hl2
            · next n r1 r2 hf2 =>
              split at hl2
              · next hlt =>
                cases hl2
                obtain ⟨J2, hJ2⟩ := hB hp1 _ hf2
                have hpc2 := am_find_pc hf2
                simp only [am_okE, Bool.and_eq_true] at hJ2
                have hdg2 := am_dec_ok hJ2.1
                dsimp only at hpc2 hdg2
                subst hpc2
                exact lv_astore hx hb hdg2 (am_full_has hl3.1 hl3.2.2.1) (by rw [← hl3.2.1]; exact hlt) rfl (fun ls4 h4 => ih _ _ _ _ _ _ h1 (as ++ u) ws1 ls4 [] H1 locs1 ⟨⟨t0 ++ u, by rw [ht0, List.append_assoc]⟩, am_RL_clr hXo hl3 hlt h4, trivial, q5, q6, q7, q8⟩)
              · cases hl2
            · cases hl2
    · exact hT E J ls st h cells slots as ws ls1 st1 H locs hk3 hJ h7 h5 hsum hhs h1 Rl
end AMX
end
section
/-! ===== the simulation: every call of every method ===== -/
theorem am_slots_len (X : Nat → Value → Prop) (hX : am_Xok X) {as : List Nat} : ∀ {vs ws : List Value}, am_RS X as vs ws → (lg_sl ws).length = (am_slots vs).length
  | [], [], _ => rfl
  | v :: vs, w :: ws, h => by
    have h1 := am_slots_len X hX h.2
    have h2 := am_RV_cat hX h.1
    simp only [am_slots, lg_sl, List.flatMap_cons, List.length_append] at h1 ⊢
    rw [h1, h2]
    by_cases q : v.category = 2
    · rw [if_pos q, if_pos q]; rfl
    · rw [if_neg q, if_neg q]; rfl
  | [], _ :: _, h => h.elim
  | _ :: _, [], h => h.elim
theorem am_slots_get (X : Nat → Value → Prop) (hX : am_Xok X) {as : List Nat} : ∀ {vs ws : List Value} {i : Nat} {v : Value}, am_RS X as vs ws → (am_slots vs)[i]? = some (some v) → ∃ w, am_RV X as v w ∧ (lg_sl ws)[i]? = some (Slot.val w)
  | [], _, i, v, _, h => by simp [am_slots] at h
  | _ :: _, [], _, _, h, _ => h.elim
  | u :: vs, w :: ws, i, v, h, hi => by
    have h2 := am_RV_cat hX h.1
    simp only [am_slots, lg_sl, List.flatMap_cons] at hi ⊢
    rw [h2]
    by_cases q : u.category = 2
    · rw [if_pos q] at hi ⊢
      match i, hi with
      | 0, hi =>
        cases hi
        exact ⟨w, h.1, rfl⟩
      | 1, hi => cases hi
      | j + 2, hi =>
        have h3 : (am_slots vs)[j]? = some (some v) := hi
        obtain ⟨w2, h4, h5⟩ := am_slots_get X hX h.2 h3
        exact ⟨w2, h4, h5⟩
    · rw [if_neg q] at hi ⊢
      match i, hi with
      | 0, hi =>
        cases hi
        exact ⟨w, h.1, rfl⟩
      | j + 1, hi =>
        have h3 : (am_slots vs)[j]? = some (some v) := hi
        obtain ⟨w2, h4, h5⟩ := am_slots_get X hX h.2 h3
        exact ⟨w2, h4, h5⟩
theorem am_RL_entry {X : Nat → Value → Prop} (hX : am_Xok X) {as : List Nat} {nL : Nat} {vs ws : List Value} (h : am_RS X as vs ws) (hlen : (am_slots vs).length ≤ nL) : am_RL X as nL (am_entry nL vs) ((lg_sl ws ++ List.replicate (nL - (lg_sl ws).length) Slot.unset).toArray) := by
  have h1 := am_slots_len X hX h
  have h2 := lv_entry ws (n := nL) (by rw [h1]; exact hlen)
  refine ⟨h2.1, by rw [am_entry, List.length_append, List.length_replicate]; omega, h2.2.1, fun i v hv => ?_⟩
  rw [am_entry] at hv
  by_cases q : i < (am_slots vs).length
  · rw [List.getElem?_append_left q] at hv
    obtain ⟨w, h3, h4⟩ := am_slots_get X hX h hv
    refine ⟨w, h3, ?_⟩
    rw [List.getElem?_toArray, List.getElem?_append_left (by rw [h1]; exact q)]
    exact h4
  · rw [List.getElem?_append_right (by omega)] at hv
    have := List.eq_of_mem_replicate (List.mem_of_getElem? hv)
    cases this
section AMM
variable {p : Program} {l : Launch} {e : Env} {R : Room} {s : State} {m : MethodId} {args : Array Value} {below : List Frame} {meth : Method} {c : Code} {Q : State → Prop} {k : AK} {b nL : Nat} {as0 as : List Nat} {ws : va_W} {ls : ALs} {st : List Value} {h : AHp} {ls1 : Array Slot} {st1 : List Value} {H : Heap} {locs : List Loc} {cells slots pc : Nat} {scr : ASc}
theorem am_mkQ {res : ARe} {v w : Option Value} (hres : res = (.inl v, h, res.2.2.1, res.2.2.2)) (hv : am_RO (am_X k b) as v w) (ht : ∃ u, as = as0 ++ u) (hw : am_RW (am_X k b) k.2.2.1 as h ws) (hP : va_P k.2.1 am_cl ws H) (hD : va_D (am_A k) ws) (hS : va_S (am_A k) s.heap H locs) : ∀ t : State, t.heap = H → s.WarmedH t.vm → am_Qr k b as0 res args s (.returned w) t := by
  intro t h1 _
  rw [hres]
  exact ⟨⟨w, as, ws, rfl, hv, ht, hw, by rw [h1]; exact hP, hD⟩, hS.F h1⟩
/-- a method's end -/
theorem sim_ret {cc : ByteArray} {nL : Nat} {i : Instr} {rt : Option FieldType} {v : Option Value} {res : ARe} (hx : p.tables.exec = Jvm.exec) (hb : c.code = cc) (hr : meth.sig.returnType = rt) (hlocks : meth.locks = false) (hdg : decode cc pc = .ok (i, am_len i)) (hv : am_ret rt i st = some v) (hres : res = (.inl v, h, res.2.2.1, res.2.2.2)) (Rl : am_Rel k (am_X k b) nL s as0 as ws ls st h ls1 st1 H locs) :
    W p l e R s m args below meth c H locs res.2.2.1 res.2.2.2 (vx_MQ below (am_Qr k b as0 res) (am_Xr k b as0 res) args s res.2.2.1 res.2.2.2 (am_A k)) (F0 m pc ls1 st1) := by
  obtain ⟨ht, hl, hst, hw, hP, hD, hS⟩ := Rl
  have hf : ∀ q ∈ locs, am_A k q.base := hS.2.2
  unfold am_ret at hv
  split at hv
  · next x ty =>
    split at hv
    · next hn =>
      cases hv
      obtain ⟨r, rfl, hr0⟩ := am_RS_int hst
      obtain rfl := am_RS_nil hr0
      exact vx_ret (W.zret hx hb hr hn (am_mkQ hres rfl ht hw hP hD hS) hf hdg hlocks)
    · cases hv
  · next x =>
    cases hv
    obtain ⟨r, rfl, hr0⟩ := am_RS_long hst
    obtain rfl := am_RS_nil hr0
    exact vx_ret (W.lret hx hb hr (am_mkQ hres rfl ht hw hP hD hS) hf hdg hlocks)
  · next a C =>
    split at hv
    · next ha =>
      cases hv
      obtain ⟨q, r, hq, rfl, hr0⟩ := am_RS_ref hst ha
      obtain rfl := am_RS_nil hr0
      exact vx_ret (W.aret hx hb hr (Or.inl ⟨_, rfl⟩) (Or.inr ⟨_, rfl⟩) (am_mkQ hres (am_RV_mk ha hq) ht hw hP hD hS) hf hdg hlocks)
    · cases hv
  · next a C =>
    split at hv
    · next ha =>
      cases hv
      obtain ⟨q, r, hq, rfl, hr0⟩ := am_RS_ref hst ha
      obtain rfl := am_RS_nil hr0
      exact vx_ret (W.aret hx hb hr (Or.inr ⟨_, rfl⟩) (Or.inr ⟨_, rfl⟩) (am_mkQ hres (am_RV_mk ha hq) ht hw hP hD hS) hf hdg hlocks)
    · cases hv
  · next C =>
    cases hv
    obtain ⟨w, r, rfl, rfl, hr0⟩ := am_RS_cons hst
    obtain rfl := am_RS_nil hr0
    exact vx_ret (W.aret hx hb hr (Or.inl ⟨_, rfl⟩) (Or.inl rfl) (am_mkQ hres rfl ht hw hP hD hS) hf hdg hlocks)
  · cases hv
    obtain rfl := am_RS_nil hst
    exact vx_ret (W.vret hx hb hr (am_mkQ hres trivial ht hw hP hD hS) hf hdg hlocks)
  · cases hv
end AMM
theorem sim_all {l : Launch} {k : AK} {b : Nat} {scr : ASc} (hfl : l.stackTraces = false) (hprog : ∀ mi Y, am_prog mi = some Y → am_okY Y ∧ am_okB Y ∧ am_okH Y) : ∀ (d f mi : Nat) (Y : AMe) (vs : List Value) (h : AHp) (res : ARe), am_prog mi = some Y → am_call scr (d + 1) f mi vs h = some res → am_Ct l k b scr d Y vs h res := by
  intro d
  induction d with
  | zero => intro f mi Y vs h res _ hc; cases hc
  | succ d ih =>
    intro f mi Y vs h res hp hc
    obtain ⟨hY, hB, hH⟩ := hprog mi Y hp
    unfold am_call at hc
    rw [hp] at hc
    dsimp only at hc
    split at hc
    · next hlen =>
      intro as ws args1 hRS hRW hD
      have hXo := am_X_ok k b
      have body : ∀ (p : Program) (e : Env) (s : State) (m : MethodId) (args : Array Value) (below : List Frame) (meth : Method) (c : Code) (s₁ : State), BodyLoose p l Y.1 (headSpec (am_cw Y :: am_T) (am_rm (d + 1) res)) Y.2.1 Y.2.2.1 Y.2.2.2.2.1 e s m args below meth c s₁ → c.maxLocals = Y.2.2.1 → c.exceptionTable.toList = tableOf (Y.2.2.2.2.2.1.map fun z => (z.1, z.2.1, z.2.2.1, z.2.2.2.1)) → va_Pc args1 (fun U => am_Wd k b scr U ∧ va_P k.2.1 am_cl ws U.heap) args s →
          W p l e (headSpec (am_cw Y :: am_T) (am_rm (d + 1) res)).room s m args below meth c s.heap [] 0 0 (vx_MQ below (am_Qr k b as res) (am_Xr k b as res) args s res.2.2.1 res.2.2.2 (am_A k)) (entryFrame m args Y.2.2.1) := by
        intro p e s m args below meth c s₁ B hml hTab hPc
        obtain ⟨rfl, hWd, hP⟩ := hPc
        have hts0 := atoms_spec (ws := am_cw Y :: am_T) B.pre
        have C : am_Cx p l (am_rm (d + 1) res) s m args1.toArray meth c k b Y.2.2.1 Y.2.1 Y.1.cls Y.1.name scr (d + 1) :=
          ⟨B.exec, B.bytes, hml, findClass_of_methodNamed B.named, fun w hw => hts0 w (List.mem_cons_of_mem _ hw), B.notSynchronized, (name_of_methodNamed B.named B.method).1, hWd, Nat.succ_pos _, Nat.le_refl _, Nat.le_refl _, hfl⟩
        rw [lg_entry_eq]
        have hout : Y.2.2.2.2.2.1 = [] → ∀ x ∈ c.exceptionTable.toList, False := fun q x hx => by rw [hTab, q] at hx; cases hx
        refine sim_exec (Q := vx_MQ below (am_Qr k b as res) (am_Xr k b as res) args1.toArray s res.2.2.1 res.2.2.2 (am_A k)) (as0 := as) C rfl hB hH (Or.inr hTab) (fun mi Y h => (hprog mi Y h).1) (fun mi Y vs h1 res1 q1 q2 => ih f mi Y vs h1 res1 q1 q2) (Nat.le_refl _) (Nat.le_refl _) ?_ ?_ ?_ f 0 _ [] h 0 0 hc as ws _ [] s.heap [] ⟨⟨[], by rw [List.append_nil]⟩, am_RL_entry hXo hRS hlen, trivial, hRW, hP, hD, va_S.rf⟩
        · intro pc i ls st h v as2 ws2 ls1 st1 H locs hdg _ hv hres Rl
          exact sim_ret B.exec B.bytes B.returns B.notSynchronized hdg hv hres Rl
        · intro E J ls st h cells slots as2 ws2 ls1 st1 H locs hk hJ h7 h5 hsum hhs hres Rl
          refine sim_throw C hk hJ h7 h5 hsum (hout hhs) hres ?_ ?_ Rl
          · rw [hres]; exact Nat.le_refl _
          · rw [hres]; exact Nat.le_refl _
        · intro pc X h ce q9 as2 ws2 ls1 H locs rest1 hhs hres ht hw hP2 hD2 hS hce hcv hcl
          refine vx_out (fun x hx => (hout hhs x hx).elim) B.notSynchronized hce hcv hcl (fun t h1 _ => ?_) (fun z hz => hS.2.2 z hz) (Nat.le_refl _) (Nat.le_refl _)
          rw [hres]
          exact ⟨rfl, ⟨as2, ws2, ht, hw, by rw [h1]; exact hP2, hD2⟩, hS.F h1⟩
      cases hhs : Y.2.2.2.2.2.1 with
      | nil =>
        have hcw : am_cw Y = .code Y.1 Y.2.1 Y.2.2.1 Y.2.2.2.2.1 := by simp only [am_cw, hhs]
        refine vx_ofW (ws' := am_T) hY.1 (by rw [hcw]) (fun p e s m args below meth c s₁ B hml hout hPc => body p e s m args below meth c s₁ B hml ?_ hPc)
        rw [hhs]
        exact List.eq_nil_iff_forall_not_mem.mpr (fun x hx => hout x hx)
      | cons q r =>
        have hcw : am_cw Y = .codeWith Y.1 Y.2.1 Y.2.2.1 Y.2.2.2.2.1 ((q :: r).map fun z => (z.1, z.2.1, z.2.2.1, z.2.2.2.1)) := by simp only [am_cw, hhs]
        refine vx_ofWH (ws' := am_T) (hh := (q :: r).map fun z => (z.1, z.2.1, z.2.2.1, z.2.2.2.1)) hY.1 (by rw [hcw]) (fun p e s m args below meth c s₁ B hml hPc => body p e s m args below meth c s₁ B hml ?_ hPc)
        have hts0 := atoms_spec (ws := am_cw Y :: am_T) B.pre
        rw [hhs]
        exact vx_table (x := Y.1) B (by rw [← hcw]; exact hts0 _ List.mem_cons_self)
    · cases hc
end
section
-- ===== end of PART A; then your names; then what follows =====
/-! THE CLAIM OUT OF ONE WALK OF THE LAW'S BODY. Your part is whole_start (and what it stands on); all else here is the same for every law, but numbers. -/
def R_law : String := "PebbleProofsLaw"
def lw_P (b : Addr) (xs : List Int32) (args : Array Value) (s : State) : Prop := args = #[.ref b] ∧ s.IntsAt b xs ∧ xs.length ≤ 260 ∧ (Jvm.Cond.and given_1 narrow_1).before args s = true
def lw_Q (_ : Array Value) (s : State) (o : Outcome) (t : State) : Prop := o = .returned (some (.int 1)) ∧ Framed s o t [] room_1.cells room_1.slots
def lw_Z (below : List Frame) (a : Array Value) (s : State) : State → Prop := fun t => ∃ o, t.status = .running ∧ Ended t below o ∧ lw_Q a s o t
/-- the law's own end, with 1 on the stack, nothing written that was there before, its room as the claim has it -/
theorem lw_ret {p : Program} {l : Launch} {e : Env} {s : State} {m : MethodId} {below : List Frame} {meth : Method} {c : Code} {b : Nat} (hx : p.tables.exec = Jvm.exec) (hb : c.code = code) (hr : meth.sig.returnType = ret) (hlocks : meth.locks = false) {pc : Nat} {H : Heap} {ls : Array Slot} (hdg : decode code pc = .ok (.ireturn, 1)) : W p l e room_1 s m #[Value.ref b] below meth c H [] room_1.cells room_1.slots (lw_Z below #[Value.ref b] s) (F0 m pc ls [.int 1]) := by
  intro T hT X
  obtain ⟨fs, hret, hrun, hended, hW, hframe⟩ := X.leave (v := some (.int 1)) (hlocks := hlocks) (fun h => by rw [hr] at h; cases h)
  have hmeth' : T.vm.method? m = some meth := X.method'
  refine ⟨T.setFrames fs, ?_, .returned (some (.int 1)), hrun, hended, rfl, ⟨_, rfl⟩, hW, hframe⟩
  jvm_step X.here [X.here.top, hx, hb, hdg, hmeth', hr, ret, narrow_b1]
  (try refine ⟨rfl, ?_⟩); (try refine ⟨rfl, ?_⟩)
  first | (intro acts; rw [hret _ acts rfl rfl rfl]) | rw [hret _ _ rfl rfl rfl]
  exact Steps.refl _
/-- what holds at the law's entry: the machine, the code, the tables' words (any of lw_tbl by 'hts w (by decide +kernel)'), the script of L ints xs at the cell b, what the Statement gives of the start (any of its parts by flat_of_before) -/
def lw_At (p : Program) (s : State) (m : MethodId) (meth : Method) (c : Code) (b L : Nat) (xs : Nat → Int32) : Prop :=
  p.tables.exec = Jvm.exec ∧ c.code = code ∧ meth.sig.returnType = ret ∧ c.maxLocals = 11 ∧ s.vm.findClass R_law = some m.cls ∧ (∀ w ∈ lw_tbl, w.before #[Value.ref b] s = true) ∧ va_X b L xs s s.heap ∧ b < s.heap.size ∧ meth.locks = false ∧ (Jvm.Cond.and given_1 narrow_1).before #[Value.ref b] s = true
end
section
/-! ===== the texts and the tables of digits at the start (by wip/p47/mk17.py) ===== -/
def am_pa : Jvm.Cond → List Bool → Jvm.Cond
  | .and a _, true :: l => am_pa a l
  | .and _ b, false :: l => am_pa b l
  | c, _ => c
theorem am_pm {T c : Jvm.Cond} (l : List Bool) (h : am_pa T l = c) (hc : flatC c = [c]) : c ∈ flatC T := by
  induction l generalizing T with
  | nil => 
    have h2 : am_pa T [] = T := by cases T <;> rfl
    rw [h2] at h
    rw [h, hc]
    exact List.mem_cons_self
  | cons x l ih =>
    cases T with
    | and a b =>
      rw [flatC]
      cases x with
      | true => exact List.mem_append.mpr (Or.inl (ih h))
      | false => exact List.mem_append.mpr (Or.inr (ih h))
    | _ =>
      simp only [am_pa] at h
      subst h
      rw [hc]
      exact List.mem_cons_self
theorem am_evi {args : Array Value} {s : State} {t : Term} {x : Int32} (h : (Jvm.Cond.eq t (.int x)).before args s = true) : t.eval args s none [] s = some (.int x) := by
  have hi : (Term.int x).eval args s none [] s = some (.int x) := rfl
  simp only [Cond.before, Cond.holds, Cond.value, hi] at h
  cases hu : t.eval args s none [] s with
  | none => simp [hu] at h
  | some v =>
    rw [hu] at h
    cases v <;> simp at h
    rw [h]
theorem am_arrk {s : State} {args : Array Value} {ty : FieldType} (h : (Jvm.Cond.arrayClass ty).before args s = true) (hno : ∀ C, ty ≠ .object C) : ∃ g, ArrOfT s g ty ∧ va_RA s g ty := by
  obtain ⟨g, kA, comp, h1, h2, h3⟩ := Cond.arrayClass_spec h
  refine ⟨g, fun n z => ⟨fun k h => (by cases h), kA, h2, comp, h3⟩, ?_⟩
  cases ty with
  | object C => exact absurd rfl (hno C)
  | _ => exact h1
theorem am_arro {s : State} {args : Array Value} {C : String} (h : (Jvm.Cond.arrayOver (.object C)).before args s = true) : ∃ g, ArrOfT s g (.object C) ∧ va_RA s g (.object C) := by
  obtain ⟨comp, g, kA, h1, -, h2, h3, h4⟩ := Cond.arrayOver_spec h
  exact ⟨g, fun n z => ⟨fun k h => (by cases h), kA, h2, comp, h3⟩, kA, comp, h2, h3, h1, h4⟩
/-- a text, out of what the Statement gives of it -/
theorem am_text {args : Array Value} {s : State} {A : Nat → Prop} (own : String) (idx : Nat) (bs : List Int32) (hlen : bs.length < 2 ^ 31) (hs : ∀ w ∈ flatC (Jvm.Cond.and given_1 narrow_1), w.before args s = true)
    (h1 : Jvm.Cond.exactly (.string own idx) "java/lang/String" ∈ flatC (Jvm.Cond.and given_1 narrow_1)) (h2 : Jvm.Cond.eq (.field (.string own idx) "java/lang/String" "coder" "B") (.int 0) ∈ flatC (Jvm.Cond.and given_1 narrow_1))
    (h3 : Jvm.Cond.arrayOf (.field (.string own idx) "java/lang/String" "value" "[B") .byte ∈ flatC (Jvm.Cond.and given_1 narrow_1)) (h4 : Jvm.Cond.eq (.length (.field (.string own idx) "java/lang/String" "value" "[B")) (.int (Int32.ofNat bs.length)) ∈ flatC (Jvm.Cond.and given_1 narrow_1))
    (h5 : ∀ j, j < bs.length → Jvm.Cond.eq (.elem (.field (.string own idx) "java/lang/String" "value" "[B") (.int (Int32.ofNat j))) (.int (bs.getD j 0)) ∈ flatC (Jvm.Cond.and given_1 narrow_1)) (hA : ∀ a : Nat, a < s.heap.size → ¬ A a) :
    ∃ aK aV : Nat, va_O "java/lang/String" aK A s s.heap ∧ va_OF "java/lang/String" "coder" "B" (.int 0) aK A s s.heap ∧ va_OF "java/lang/String" "value" "[B" (.ref aV) aK A s s.heap ∧ va_T .byte aV bs.length (fun j => .int (bs.getD j 0)) A s s.heap ∧ (Term.string own idx).eval args s none [] s = some (.ref aK) := by
  obtain ⟨adK, adV, hE, hev⟩ := vk_Sof (N := 1) (tm := fun _ => .string own idx) (len := [bs.length]) (byt := [bs]) (A := A) (args := args) (s := s) (fun i hi => by rw [show i = 0 by omega]; exact hlen) (fun i hi => hs _ h1) (fun i hi => hs _ h2) (fun i hi => hs _ h3) (fun i hi => by rw [show i = 0 by omega]; exact hs _ h4)
    (fun i hi j hj => by rw [show i = 0 by omega] at hj ⊢; exact hs _ (h5 j hj)) (fun i j hi hj hij => absurd (by omega) hij) hA
  obtain ⟨q1, q2, q3, q4⟩ := hE.1 0 (by omega)
  exact ⟨adK 0, adV 0, q1, q2, q3, q4, hev 0 (by omega)⟩
def am_tqs (args : Array Value) (s : State) (own : String) (idx i : Nat) (q : Nat × Nat) : Prop := va_O "java/lang/String" q.1 (fun z : Nat => s.heap.size ≤ z) s s.heap ∧ va_OF "java/lang/String" "coder" "B" (.int 0) q.1 (fun z : Nat => s.heap.size ≤ z) s s.heap ∧ va_OF "java/lang/String" "value" "[B" (.ref q.2) q.1 (fun z : Nat => s.heap.size ≤ z) s s.heap ∧ va_T .byte q.2 (am_tx i).length (fun j => .int ((am_tx i).getD j 0)) (fun z : Nat => s.heap.size ≤ z) s s.heap ∧ (Term.string own idx).eval args s none [] s = some (.ref q.1)
theorem am_tqm {args : Array Value} {s : State} {own : String} {idx i : Nat} (hlen : (am_tx i).length < 2 ^ 31) (hs : ∀ w ∈ flatC (Jvm.Cond.and given_1 narrow_1), w.before args s = true)
    (h1 : Jvm.Cond.exactly (.string own idx) "java/lang/String" ∈ flatC (Jvm.Cond.and given_1 narrow_1)) (h2 : Jvm.Cond.eq (.field (.string own idx) "java/lang/String" "coder" "B") (.int 0) ∈ flatC (Jvm.Cond.and given_1 narrow_1))
    (h3 : Jvm.Cond.arrayOf (.field (.string own idx) "java/lang/String" "value" "[B") .byte ∈ flatC (Jvm.Cond.and given_1 narrow_1)) (h4 : Jvm.Cond.eq (.length (.field (.string own idx) "java/lang/String" "value" "[B")) (.int (Int32.ofNat (am_tx i).length)) ∈ flatC (Jvm.Cond.and given_1 narrow_1))
    (h5 : ∀ j, j < (am_tx i).length → Jvm.Cond.eq (.elem (.field (.string own idx) "java/lang/String" "value" "[B") (.int (Int32.ofNat j))) (.int ((am_tx i).getD j 0)) ∈ flatC (Jvm.Cond.and given_1 narrow_1)) : ∃ q, am_tqs args s own idx i q := by
  obtain ⟨aK, aV, h⟩ := am_text (A := fun q : Nat => s.heap.size ≤ q) own idx (am_tx i) hlen hs h1 h2 h3 h4 h5 (fun a ha => Nat.not_le.mpr ha)
  exact ⟨(aK, aV), h⟩
def am_tp0 : List (List Bool) := [[false, true, true, false, false, true, true, true, true, true, false, true], [false, true, true, false, false, true, true, true, true, true, false, false], [false, true, true, false, false, true, true, true, true, false, true], [false, true, true, false, false, true, true, true, true, false, false, true], [false, true, true, false, false, true, true, true, true, false, false, false], [false, true, true, false, false, true, true, true, false, true, true], [false, true, true, false, false, true, true, true, false, true, false, true], [false, true, true, false, false, true, true, true, false, true, false, false]]
theorem am_tq0 {args : Array Value} {s : State} (hs : ∀ w ∈ flatC (Jvm.Cond.and given_1 narrow_1), w.before args s = true) : ∃ q, am_tqs args s "PebbleProofs$SetupText" 82 0 q := am_tqm (by decide) hs (am_pm [false, true, true, false, true, false, false, false, false, false, true, false] (by decide +kernel) rfl) (am_pm [false, true, true, false, true, false, false, false, false, false, false, true] (by decide +kernel) rfl) (am_pm [false, true, true, false, true, false, false, false, false, false, false, false] (by decide +kernel) rfl) (am_pm [false, true, true, false, false, true, true, true, true, true, true] (by decide +kernel) rfl) (fun j hj => am_pm (am_tp0.getD j []) ((by decide +kernel : ∀ j, j < 8 → am_pa (Jvm.Cond.and given_1 narrow_1) (am_tp0.getD j []) = .eq (.elem (.field (.string "PebbleProofs$SetupText" 82) "java/lang/String" "value" "[B") (.int (Int32.ofNat j))) (.int ((am_tx 0).getD j 0))) j hj) rfl)
def am_tp1 : List (List Bool) := [[false, true, true, false, false, true, true, false, true, true, false, true], [false, true, true, false, false, true, true, false, true, true, false, false], [false, true, true, false, false, true, true, false, true, false, true], [false, true, true, false, false, true, true, false, true, false, false, true]]
theorem am_tq1 {args : Array Value} {s : State} (hs : ∀ w ∈ flatC (Jvm.Cond.and given_1 narrow_1), w.before args s = true) : ∃ q, am_tqs args s "PebbleProofs$SetupText" 91 1 q := am_tqm (by decide) hs (am_pm [false, true, true, false, false, true, true, true, false, false, true] (by decide +kernel) rfl) (am_pm [false, true, true, false, false, true, true, true, false, false, false, true] (by decide +kernel) rfl) (am_pm [false, true, true, false, false, true, true, true, false, false, false, false] (by decide +kernel) rfl) (am_pm [false, true, true, false, false, true, true, false, true, true, true] (by decide +kernel) rfl) (fun j hj => am_pm (am_tp1.getD j []) ((by decide +kernel : ∀ j, j < 4 → am_pa (Jvm.Cond.and given_1 narrow_1) (am_tp1.getD j []) = .eq (.elem (.field (.string "PebbleProofs$SetupText" 91) "java/lang/String" "value" "[B") (.int (Int32.ofNat j))) (.int ((am_tx 1).getD j 0))) j hj) rfl)
def am_tp2 : List (List Bool) := [[false, true, true, false, false, true, true, false, false, false, true, true], [false, true, true, false, false, true, true, false, false, false, true, false], [false, true, true, false, false, true, true, false, false, false, false, true], [false, true, true, false, false, true, true, false, false, false, false, false]]
theorem am_tq2 {args : Array Value} {s : State} (hs : ∀ w ∈ flatC (Jvm.Cond.and given_1 narrow_1), w.before args s = true) : ∃ q, am_tqs args s "PebbleProofs$SetupText" 96 2 q := am_tqm (by decide) hs (am_pm [false, true, true, false, false, true, true, false, true, false, false, false] (by decide +kernel) rfl) (am_pm [false, true, true, false, false, true, true, false, false, true, true] (by decide +kernel) rfl) (am_pm [false, true, true, false, false, true, true, false, false, true, false, true] (by decide +kernel) rfl) (am_pm [false, true, true, false, false, true, true, false, false, true, false, false] (by decide +kernel) rfl) (fun j hj => am_pm (am_tp2.getD j []) ((by decide +kernel : ∀ j, j < 4 → am_pa (Jvm.Cond.and given_1 narrow_1) (am_tp2.getD j []) = .eq (.elem (.field (.string "PebbleProofs$SetupText" 96) "java/lang/String" "value" "[B") (.int (Int32.ofNat j))) (.int ((am_tx 2).getD j 0))) j hj) rfl)
def am_tp3 : List (List Bool) := [[false, true, true, false, false, true, false, true, true, false, false, true], [false, true, true, false, false, true, false, true, true, false, false, false], [false, true, true, false, false, true, false, true, false, true, true], [false, true, true, false, false, true, false, true, false, true, false, true], [false, true, true, false, false, true, false, true, false, true, false, false], [false, true, true, false, false, true, false, true, false, false, true], [false, true, true, false, false, true, false, true, false, false, false, true], [false, true, true, false, false, true, false, true, false, false, false, false]]
theorem am_tq3 {args : Array Value} {s : State} (hs : ∀ w ∈ flatC (Jvm.Cond.and given_1 narrow_1), w.before args s = true) : ∃ q, am_tqs args s "PebbleProofs$SetupText" 101 3 q := am_tqm (by decide) hs (am_pm [false, true, true, false, false, true, false, true, true, true, true] (by decide +kernel) rfl) (am_pm [false, true, true, false, false, true, false, true, true, true, false, true] (by decide +kernel) rfl) (am_pm [false, true, true, false, false, true, false, true, true, true, false, false] (by decide +kernel) rfl) (am_pm [false, true, true, false, false, true, false, true, true, false, true] (by decide +kernel) rfl) (fun j hj => am_pm (am_tp3.getD j []) ((by decide +kernel : ∀ j, j < 8 → am_pa (Jvm.Cond.and given_1 narrow_1) (am_tp3.getD j []) = .eq (.elem (.field (.string "PebbleProofs$SetupText" 101) "java/lang/String" "value" "[B") (.int (Int32.ofNat j))) (.int ((am_tx 3).getD j 0))) j hj) rfl)
theorem am_tq4 {args : Array Value} {s : State} (hs : ∀ w ∈ flatC (Jvm.Cond.and given_1 narrow_1), w.before args s = true) : ∃ q, am_tqs args s "PebbleProofsLaw" 255 4 q := am_tqm (by decide) hs (am_pm [false, true, false, false, false, true, true, true, false, true, false, true] (by decide +kernel) rfl) (am_pm [false, true, false, false, false, true, true, true, false, true, false, false] (by decide +kernel) rfl) (am_pm [false, true, false, false, false, true, true, true, false, false, true] (by decide +kernel) rfl) (am_pm [false, true, false, false, false, true, true, true, false, false, false, true] (by decide +kernel) rfl) (fun j hj => absurd hj (Nat.not_lt_zero j))
def am_tp5 : List (List Bool) := [[false, true, false, false, false, true, true, false, true, false, true], [false, true, false, false, false, true, true, false, true, false, false, true], [false, true, false, false, false, true, true, false, true, false, false, false], [false, true, false, false, false, true, true, false, false, true, true], [false, true, false, false, false, true, true, false, false, true, false, true], [false, true, false, false, false, true, true, false, false, true, false, false], [false, true, false, false, false, true, true, false, false, false, true, true], [false, true, false, false, false, true, true, false, false, false, true, false]]
theorem am_tq5 {args : Array Value} {s : State} (hs : ∀ w ∈ flatC (Jvm.Cond.and given_1 narrow_1), w.before args s = true) : ∃ q, am_tqs args s "PebbleProofsLaw" 261 5 q := am_tqm (by decide) hs (am_pm [false, true, false, false, false, true, true, true, false, false, false, false] (by decide +kernel) rfl) (am_pm [false, true, false, false, false, true, true, false, true, true, true] (by decide +kernel) rfl) (am_pm [false, true, false, false, false, true, true, false, true, true, false, true] (by decide +kernel) rfl) (am_pm [false, true, false, false, false, true, true, false, true, true, false, false] (by decide +kernel) rfl) (fun j hj => am_pm (am_tp5.getD j []) ((by decide +kernel : ∀ j, j < 8 → am_pa (Jvm.Cond.and given_1 narrow_1) (am_tp5.getD j []) = .eq (.elem (.field (.string "PebbleProofsLaw" 261) "java/lang/String" "value" "[B") (.int (Int32.ofNat j))) (.int ((am_tx 5).getD j 0))) j hj) rfl)
def am_tp6 : List (List Bool) := [[false, true, false, false, false, true, false, true, true, true, false, false], [false, true, false, false, false, true, false, true, true, false, true], [false, true, false, false, false, true, false, true, true, false, false, true], [false, true, false, false, false, true, false, true, true, false, false, false], [false, true, false, false, false, true, false, true, false, true, true], [false, true, false, false, false, true, false, true, false, true, false, true], [false, true, false, false, false, true, false, true, false, true, false, false], [false, true, false, false, false, true, false, true, false, false, true], [false, true, false, false, false, true, false, true, false, false, false, true], [false, true, false, false, false, true, false, true, false, false, false, false]]
theorem am_tq6 {args : Array Value} {s : State} (hs : ∀ w ∈ flatC (Jvm.Cond.and given_1 narrow_1), w.before args s = true) : ∃ q, am_tqs args s "PebbleProofsLaw" 263 6 q := am_tqm (by decide) hs (am_pm [false, true, false, false, false, true, true, false, false, false, false, true] (by decide +kernel) rfl) (am_pm [false, true, false, false, false, true, true, false, false, false, false, false] (by decide +kernel) rfl) (am_pm [false, true, false, false, false, true, false, true, true, true, true] (by decide +kernel) rfl) (am_pm [false, true, false, false, false, true, false, true, true, true, false, true] (by decide +kernel) rfl) (fun j hj => am_pm (am_tp6.getD j []) ((by decide +kernel : ∀ j, j < 10 → am_pa (Jvm.Cond.and given_1 narrow_1) (am_tp6.getD j []) = .eq (.elem (.field (.string "PebbleProofsLaw" 263) "java/lang/String" "value" "[B") (.int (Int32.ofNat j))) (.int ((am_tx 6).getD j 0))) j hj) rfl)
def am_tp7 : List (List Bool) := [[false, true, false, false, false, true, false, false, true, false, false, true], [false, true, false, false, false, true, false, false, true, false, false, false], [false, true, false, false, false, true, false, false, false, true, true], [false, true, false, false, false, true, false, false, false, true, false, true], [false, true, false, false, false, true, false, false, false, true, false, false], [false, true, false, false, false, true, false, false, false, false, true, true], [false, true, false, false, false, true, false, false, false, false, true, false], [false, true, false, false, false, true, false, false, false, false, false, true], [false, true, false, false, false, true, false, false, false, false, false, false], [false, true, false, false, false, false, true, true, true, true, true]]
theorem am_tq7 {args : Array Value} {s : State} (hs : ∀ w ∈ flatC (Jvm.Cond.and given_1 narrow_1), w.before args s = true) : ∃ q, am_tqs args s "PebbleProofsLaw" 265 7 q := am_tqm (by decide) hs (am_pm [false, true, false, false, false, true, false, false, true, true, true] (by decide +kernel) rfl) (am_pm [false, true, false, false, false, true, false, false, true, true, false, true] (by decide +kernel) rfl) (am_pm [false, true, false, false, false, true, false, false, true, true, false, false] (by decide +kernel) rfl) (am_pm [false, true, false, false, false, true, false, false, true, false, true] (by decide +kernel) rfl) (fun j hj => am_pm (am_tp7.getD j []) ((by decide +kernel : ∀ j, j < 10 → am_pa (Jvm.Cond.and given_1 narrow_1) (am_tp7.getD j []) = .eq (.elem (.field (.string "PebbleProofsLaw" 265) "java/lang/String" "value" "[B") (.int (Int32.ofNat j))) (.int ((am_tx 7).getD j 0))) j hj) rfl)
def am_tp8 : List (List Bool) := [[false, true, false, false, false, false, true, true, true, false, false, false], [false, true, false, false, false, false, true, true, false, true, true], [false, true, false, false, false, false, true, true, false, true, false, true], [false, true, false, false, false, false, true, true, false, true, false, false], [false, true, false, false, false, false, true, true, false, false, true], [false, true, false, false, false, false, true, true, false, false, false, true], [false, true, false, false, false, false, true, true, false, false, false, false], [false, true, false, false, false, false, true, false, true, true, true], [false, true, false, false, false, false, true, false, true, true, false, true], [false, true, false, false, false, false, true, false, true, true, false, false]]
theorem am_tq8 {args : Array Value} {s : State} (hs : ∀ w ∈ flatC (Jvm.Cond.and given_1 narrow_1), w.before args s = true) : ∃ q, am_tqs args s "PebbleProofsLaw" 267 8 q := am_tqm (by decide) hs (am_pm [false, true, false, false, false, false, true, true, true, true, false, true] (by decide +kernel) rfl) (am_pm [false, true, false, false, false, false, true, true, true, true, false, false] (by decide +kernel) rfl) (am_pm [false, true, false, false, false, false, true, true, true, false, true] (by decide +kernel) rfl) (am_pm [false, true, false, false, false, false, true, true, true, false, false, true] (by decide +kernel) rfl) (fun j hj => am_pm (am_tp8.getD j []) ((by decide +kernel : ∀ j, j < 10 → am_pa (Jvm.Cond.and given_1 narrow_1) (am_tp8.getD j []) = .eq (.elem (.field (.string "PebbleProofsLaw" 267) "java/lang/String" "value" "[B") (.int (Int32.ofNat j))) (.int ((am_tx 8).getD j 0))) j hj) rfl)
def am_tp9 : List (List Bool) := [[false, true, false, false, false, false, true, false, false, true, false, true], [false, true, false, false, false, false, true, false, false, true, false, false], [false, true, false, false, false, false, true, false, false, false, true, true], [false, true, false, false, false, false, true, false, false, false, true, false], [false, true, false, false, false, false, true, false, false, false, false, true], [false, true, false, false, false, false, true, false, false, false, false, false], [false, true, false, false, false, false, false, true, true, true, true], [false, true, false, false, false, false, false, true, true, true, false, true], [false, true, false, false, false, false, false, true, true, true, false, false], [false, true, false, false, false, false, false, true, true, false, true], [false, true, false, false, false, false, false, true, true, false, false, true], [false, true, false, false, false, false, false, true, true, false, false, false], [false, true, false, false, false, false, false, true, false, true, true], [false, true, false, false, false, false, false, true, false, true, false, true], [false, true, false, false, false, false, false, true, false, true, false, false], [false, true, false, false, false, false, false, true, false, false, true], [false, true, false, false, false, false, false, true, false, false, false, true], [false, true, false, false, false, false, false, true, false, false, false, false], [false, true, false, false, false, false, false, false, true, true, true], [false, true, false, false, false, false, false, false, true, true, false, true], [false, true, false, false, false, false, false, false, true, true, false, false]]
theorem am_tq9 {args : Array Value} {s : State} (hs : ∀ w ∈ flatC (Jvm.Cond.and given_1 narrow_1), w.before args s = true) : ∃ q, am_tqs args s "PebbleProofsLaw" 269 9 q := am_tqm (by decide) hs (am_pm [false, true, false, false, false, false, true, false, true, false, true] (by decide +kernel) rfl) (am_pm [false, true, false, false, false, false, true, false, true, false, false, true] (by decide +kernel) rfl) (am_pm [false, true, false, false, false, false, true, false, true, false, false, false] (by decide +kernel) rfl) (am_pm [false, true, false, false, false, false, true, false, false, true, true] (by decide +kernel) rfl) (fun j hj => am_pm (am_tp9.getD j []) ((by decide +kernel : ∀ j, j < 21 → am_pa (Jvm.Cond.and given_1 narrow_1) (am_tp9.getD j []) = .eq (.elem (.field (.string "PebbleProofsLaw" 269) "java/lang/String" "value" "[B") (.int (Int32.ofNat j))) (.int ((am_tx 9).getD j 0))) j hj) rfl)
def am_tp10 : List (List Bool) := [[false, true, false, false, false, false, false, false, false, true, false, true], [false, true, false, false, false, false, false, false, false, true, false, false], [false, true, false, false, false, false, false, false, false, false, true, true], [false, true, false, false, false, false, false, false, false, false, true, false], [false, true, false, false, false, false, false, false, false, false, false, true], [false, true, false, false, false, false, false, false, false, false, false, false], [false, false, true, true, true, true, true, true, true, true, true], [false, false, true, true, true, true, true, true, true, true, false, true], [false, false, true, true, true, true, true, true, true, true, false, false], [false, false, true, true, true, true, true, true, true, false, true], [false, false, true, true, true, true, true, true, true, false, false, true], [false, false, true, true, true, true, true, true, true, false, false, false], [false, false, true, true, true, true, true, true, false, true, true], [false, false, true, true, true, true, true, true, false, true, false, true], [false, false, true, true, true, true, true, true, false, true, false, false], [false, false, true, true, true, true, true, true, false, false, true], [false, false, true, true, true, true, true, true, false, false, false, true], [false, false, true, true, true, true, true, true, false, false, false, false], [false, false, true, true, true, true, true, false, true, true, true]]
theorem am_tq10 {args : Array Value} {s : State} (hs : ∀ w ∈ flatC (Jvm.Cond.and given_1 narrow_1), w.before args s = true) : ∃ q, am_tqs args s "PebbleProofsLaw" 271 10 q := am_tqm (by decide) hs (am_pm [false, true, false, false, false, false, false, false, true, false, true] (by decide +kernel) rfl) (am_pm [false, true, false, false, false, false, false, false, true, false, false, true] (by decide +kernel) rfl) (am_pm [false, true, false, false, false, false, false, false, true, false, false, false] (by decide +kernel) rfl) (am_pm [false, true, false, false, false, false, false, false, false, true, true] (by decide +kernel) rfl) (fun j hj => am_pm (am_tp10.getD j []) ((by decide +kernel : ∀ j, j < 19 → am_pa (Jvm.Cond.and given_1 narrow_1) (am_tp10.getD j []) = .eq (.elem (.field (.string "PebbleProofsLaw" 271) "java/lang/String" "value" "[B") (.int (Int32.ofNat j))) (.int ((am_tx 10).getD j 0))) j hj) rfl)
def am_tp11 : List (List Bool) := [[false, false, true, true, true, true, true, false, true, false, false, false], [false, false, true, true, true, true, true, false, false, true, true], [false, false, true, true, true, true, true, false, false, true, false, true], [false, false, true, true, true, true, true, false, false, true, false, false], [false, false, true, true, true, true, true, false, false, false, true, true], [false, false, true, true, true, true, true, false, false, false, true, false], [false, false, true, true, true, true, true, false, false, false, false, true], [false, false, true, true, true, true, true, false, false, false, false, false], [false, false, true, true, true, true, false, true, true, true, true], [false, false, true, true, true, true, false, true, true, true, false, true], [false, false, true, true, true, true, false, true, true, true, false, false], [false, false, true, true, true, true, false, true, true, false, true], [false, false, true, true, true, true, false, true, true, false, false, true], [false, false, true, true, true, true, false, true, true, false, false, false], [false, false, true, true, true, true, false, true, false, true, true], [false, false, true, true, true, true, false, true, false, true, false, true], [false, false, true, true, true, true, false, true, false, true, false, false], [false, false, true, true, true, true, false, true, false, false, true], [false, false, true, true, true, true, false, true, false, false, false, true], [false, false, true, true, true, true, false, true, false, false, false, false], [false, false, true, true, true, true, false, false, true, true, true]]
theorem am_tq11 {args : Array Value} {s : State} (hs : ∀ w ∈ flatC (Jvm.Cond.and given_1 narrow_1), w.before args s = true) : ∃ q, am_tqs args s "PebbleProofsLaw" 273 11 q := am_tqm (by decide) hs (am_pm [false, false, true, true, true, true, true, false, true, true, false, true] (by decide +kernel) rfl) (am_pm [false, false, true, true, true, true, true, false, true, true, false, false] (by decide +kernel) rfl) (am_pm [false, false, true, true, true, true, true, false, true, false, true] (by decide +kernel) rfl) (am_pm [false, false, true, true, true, true, true, false, true, false, false, true] (by decide +kernel) rfl) (fun j hj => am_pm (am_tp11.getD j []) ((by decide +kernel : ∀ j, j < 21 → am_pa (Jvm.Cond.and given_1 narrow_1) (am_tp11.getD j []) = .eq (.elem (.field (.string "PebbleProofsLaw" 273) "java/lang/String" "value" "[B") (.int (Int32.ofNat j))) (.int ((am_tx 11).getD j 0))) j hj) rfl)
def am_tp12 : List (List Bool) := [[false, false, true, true, true, true, false, false, true, false, false, false], [false, false, true, true, true, true, false, false, false, true, true], [false, false, true, true, true, true, false, false, false, true, false, true], [false, false, true, true, true, true, false, false, false, true, false, false], [false, false, true, true, true, true, false, false, false, false, true, true], [false, false, true, true, true, true, false, false, false, false, true, false], [false, false, true, true, true, true, false, false, false, false, false, true], [false, false, true, true, true, true, false, false, false, false, false, false], [false, false, true, true, true, false, true, true, true, true, true], [false, false, true, true, true, false, true, true, true, true, false, true], [false, false, true, true, true, false, true, true, true, true, false, false], [false, false, true, true, true, false, true, true, true, false, true], [false, false, true, true, true, false, true, true, true, false, false, true], [false, false, true, true, true, false, true, true, true, false, false, false], [false, false, true, true, true, false, true, true, false, true, true], [false, false, true, true, true, false, true, true, false, true, false, true], [false, false, true, true, true, false, true, true, false, true, false, false], [false, false, true, true, true, false, true, true, false, false, true], [false, false, true, true, true, false, true, true, false, false, false, true]]
theorem am_tq12 {args : Array Value} {s : State} (hs : ∀ w ∈ flatC (Jvm.Cond.and given_1 narrow_1), w.before args s = true) : ∃ q, am_tqs args s "PebbleProofsLaw" 275 12 q := am_tqm (by decide) hs (am_pm [false, false, true, true, true, true, false, false, true, true, false, true] (by decide +kernel) rfl) (am_pm [false, false, true, true, true, true, false, false, true, true, false, false] (by decide +kernel) rfl) (am_pm [false, false, true, true, true, true, false, false, true, false, true] (by decide +kernel) rfl) (am_pm [false, false, true, true, true, true, false, false, true, false, false, true] (by decide +kernel) rfl) (fun j hj => am_pm (am_tp12.getD j []) ((by decide +kernel : ∀ j, j < 19 → am_pa (Jvm.Cond.and given_1 narrow_1) (am_tp12.getD j []) = .eq (.elem (.field (.string "PebbleProofsLaw" 275) "java/lang/String" "value" "[B") (.int (Int32.ofNat j))) (.int ((am_tx 12).getD j 0))) j hj) rfl)
def am_tp13 : List (List Bool) := [[false, false, true, true, true, false, true, false, true, false, true], [false, false, true, true, true, false, true, false, true, false, false, true], [false, false, true, true, true, false, true, false, true, false, false, false], [false, false, true, true, true, false, true, false, false, true, true], [false, false, true, true, true, false, true, false, false, true, false, true], [false, false, true, true, true, false, true, false, false, true, false, false], [false, false, true, true, true, false, true, false, false, false, true, true], [false, false, true, true, true, false, true, false, false, false, true, false], [false, false, true, true, true, false, true, false, false, false, false, true], [false, false, true, true, true, false, true, false, false, false, false, false], [false, false, true, true, true, false, false, true, true, true, true], [false, false, true, true, true, false, false, true, true, true, false, true], [false, false, true, true, true, false, false, true, true, true, false, false], [false, false, true, true, true, false, false, true, true, false, true], [false, false, true, true, true, false, false, true, true, false, false, true], [false, false, true, true, true, false, false, true, true, false, false, false], [false, false, true, true, true, false, false, true, false, true, true]]
theorem am_tq13 {args : Array Value} {s : State} (hs : ∀ w ∈ flatC (Jvm.Cond.and given_1 narrow_1), w.before args s = true) : ∃ q, am_tqs args s "PebbleProofsLaw" 277 13 q := am_tqm (by decide) hs (am_pm [false, false, true, true, true, false, true, true, false, false, false, false] (by decide +kernel) rfl) (am_pm [false, false, true, true, true, false, true, false, true, true, true] (by decide +kernel) rfl) (am_pm [false, false, true, true, true, false, true, false, true, true, false, true] (by decide +kernel) rfl) (am_pm [false, false, true, true, true, false, true, false, true, true, false, false] (by decide +kernel) rfl) (fun j hj => am_pm (am_tp13.getD j []) ((by decide +kernel : ∀ j, j < 17 → am_pa (Jvm.Cond.and given_1 narrow_1) (am_tp13.getD j []) = .eq (.elem (.field (.string "PebbleProofsLaw" 277) "java/lang/String" "value" "[B") (.int (Int32.ofNat j))) (.int ((am_tx 13).getD j 0))) j hj) rfl)
def am_tp14 : List (List Bool) := [[false, false, true, true, true, false, false, true, false, false, false, false], [false, false, true, true, true, false, false, false, true, true, true], [false, false, true, true, true, false, false, false, true, true, false, true], [false, false, true, true, true, false, false, false, true, true, false, false], [false, false, true, true, true, false, false, false, true, false, true], [false, false, true, true, true, false, false, false, true, false, false, true], [false, false, true, true, true, false, false, false, true, false, false, false], [false, false, true, true, true, false, false, false, false, true, true], [false, false, true, true, true, false, false, false, false, true, false, true], [false, false, true, true, true, false, false, false, false, true, false, false], [false, false, true, true, true, false, false, false, false, false, true, true], [false, false, true, true, true, false, false, false, false, false, true, false], [false, false, true, true, true, false, false, false, false, false, false, true], [false, false, true, true, true, false, false, false, false, false, false, false], [false, false, true, true, false, true, true, true, true, true, true], [false, false, true, true, false, true, true, true, true, true, false, true], [false, false, true, true, false, true, true, true, true, true, false, false], [false, false, true, true, false, true, true, true, true, false, true], [false, false, true, true, false, true, true, true, true, false, false, true], [false, false, true, true, false, true, true, true, true, false, false, false], [false, false, true, true, false, true, true, true, false, true, true], [false, false, true, true, false, true, true, true, false, true, false, true]]
theorem am_tq14 {args : Array Value} {s : State} (hs : ∀ w ∈ flatC (Jvm.Cond.and given_1 narrow_1), w.before args s = true) : ∃ q, am_tqs args s "PebbleProofsLaw" 279 14 q := am_tqm (by decide) hs (am_pm [false, false, true, true, true, false, false, true, false, true, false, true] (by decide +kernel) rfl) (am_pm [false, false, true, true, true, false, false, true, false, true, false, false] (by decide +kernel) rfl) (am_pm [false, false, true, true, true, false, false, true, false, false, true] (by decide +kernel) rfl) (am_pm [false, false, true, true, true, false, false, true, false, false, false, true] (by decide +kernel) rfl) (fun j hj => am_pm (am_tp14.getD j []) ((by decide +kernel : ∀ j, j < 22 → am_pa (Jvm.Cond.and given_1 narrow_1) (am_tp14.getD j []) = .eq (.elem (.field (.string "PebbleProofsLaw" 279) "java/lang/String" "value" "[B") (.int (Int32.ofNat j))) (.int ((am_tx 14).getD j 0))) j hj) rfl)
def am_tp15 : List (List Bool) := [[false, false, true, true, false, true, true, false, true, true, true], [false, false, true, true, false, true, true, false, true, true, false, true], [false, false, true, true, false, true, true, false, true, true, false, false], [false, false, true, true, false, true, true, false, true, false, true], [false, false, true, true, false, true, true, false, true, false, false, true], [false, false, true, true, false, true, true, false, true, false, false, false], [false, false, true, true, false, true, true, false, false, true, true], [false, false, true, true, false, true, true, false, false, true, false, true], [false, false, true, true, false, true, true, false, false, true, false, false], [false, false, true, true, false, true, true, false, false, false, true, true], [false, false, true, true, false, true, true, false, false, false, true, false], [false, false, true, true, false, true, true, false, false, false, false, true], [false, false, true, true, false, true, true, false, false, false, false, false], [false, false, true, true, false, true, false, true, true, true, true], [false, false, true, true, false, true, false, true, true, true, false, true], [false, false, true, true, false, true, false, true, true, true, false, false], [false, false, true, true, false, true, false, true, true, false, true], [false, false, true, true, false, true, false, true, true, false, false, true], [false, false, true, true, false, true, false, true, true, false, false, false]]
theorem am_tq15 {args : Array Value} {s : State} (hs : ∀ w ∈ flatC (Jvm.Cond.and given_1 narrow_1), w.before args s = true) : ∃ q, am_tqs args s "PebbleProofsLaw" 281 15 q := am_tqm (by decide) hs (am_pm [false, false, true, true, false, true, true, true, false, true, false, false] (by decide +kernel) rfl) (am_pm [false, false, true, true, false, true, true, true, false, false, true] (by decide +kernel) rfl) (am_pm [false, false, true, true, false, true, true, true, false, false, false, true] (by decide +kernel) rfl) (am_pm [false, false, true, true, false, true, true, true, false, false, false, false] (by decide +kernel) rfl) (fun j hj => am_pm (am_tp15.getD j []) ((by decide +kernel : ∀ j, j < 19 → am_pa (Jvm.Cond.and given_1 narrow_1) (am_tp15.getD j []) = .eq (.elem (.field (.string "PebbleProofsLaw" 281) "java/lang/String" "value" "[B") (.int (Int32.ofNat j))) (.int ((am_tx 15).getD j 0))) j hj) rfl)
def am_tp16 : List (List Bool) := [[false, false, true, true, false, true, false, true, false, false, false, true], [false, false, true, true, false, true, false, true, false, false, false, false], [false, false, true, true, false, true, false, false, true, true, true], [false, false, true, true, false, true, false, false, true, true, false, true], [false, false, true, true, false, true, false, false, true, true, false, false], [false, false, true, true, false, true, false, false, true, false, true], [false, false, true, true, false, true, false, false, true, false, false, true], [false, false, true, true, false, true, false, false, true, false, false, false], [false, false, true, true, false, true, false, false, false, true, true], [false, false, true, true, false, true, false, false, false, true, false, true], [false, false, true, true, false, true, false, false, false, true, false, false], [false, false, true, true, false, true, false, false, false, false, true, true], [false, false, true, true, false, true, false, false, false, false, true, false], [false, false, true, true, false, true, false, false, false, false, false, true], [false, false, true, true, false, true, false, false, false, false, false, false], [false, false, true, true, false, false, true, true, true, true, true], [false, false, true, true, false, false, true, true, true, true, false, true], [false, false, true, true, false, false, true, true, true, true, false, false], [false, false, true, true, false, false, true, true, true, false, true], [false, false, true, true, false, false, true, true, true, false, false, true], [false, false, true, true, false, false, true, true, true, false, false, false], [false, false, true, true, false, false, true, true, false, true, true], [false, false, true, true, false, false, true, true, false, true, false, true], [false, false, true, true, false, false, true, true, false, true, false, false], [false, false, true, true, false, false, true, true, false, false, true], [false, false, true, true, false, false, true, true, false, false, false, true], [false, false, true, true, false, false, true, true, false, false, false, false]]
theorem am_tq16 {args : Array Value} {s : State} (hs : ∀ w ∈ flatC (Jvm.Cond.and given_1 narrow_1), w.before args s = true) : ∃ q, am_tqs args s "PebbleProofsLaw" 283 16 q := am_tqm (by decide) hs (am_pm [false, false, true, true, false, true, false, true, false, true, true] (by decide +kernel) rfl) (am_pm [false, false, true, true, false, true, false, true, false, true, false, true] (by decide +kernel) rfl) (am_pm [false, false, true, true, false, true, false, true, false, true, false, false] (by decide +kernel) rfl) (am_pm [false, false, true, true, false, true, false, true, false, false, true] (by decide +kernel) rfl) (fun j hj => am_pm (am_tp16.getD j []) ((by decide +kernel : ∀ j, j < 27 → am_pa (Jvm.Cond.and given_1 narrow_1) (am_tp16.getD j []) = .eq (.elem (.field (.string "PebbleProofsLaw" 283) "java/lang/String" "value" "[B") (.int (Int32.ofNat j))) (.int ((am_tx 16).getD j 0))) j hj) rfl)
def am_tp17 : List (List Bool) := [[false, false, true, true, false, false, true, false, true, false, false, true], [false, false, true, true, false, false, true, false, true, false, false, false], [false, false, true, true, false, false, true, false, false, true, true], [false, false, true, true, false, false, true, false, false, true, false, true], [false, false, true, true, false, false, true, false, false, true, false, false], [false, false, true, true, false, false, true, false, false, false, true, true], [false, false, true, true, false, false, true, false, false, false, true, false], [false, false, true, true, false, false, true, false, false, false, false, true], [false, false, true, true, false, false, true, false, false, false, false, false], [false, false, true, true, false, false, false, true, true, true, true], [false, false, true, true, false, false, false, true, true, true, false, true], [false, false, true, true, false, false, false, true, true, true, false, false], [false, false, true, true, false, false, false, true, true, false, true], [false, false, true, true, false, false, false, true, true, false, false, true], [false, false, true, true, false, false, false, true, true, false, false, false], [false, false, true, true, false, false, false, true, false, true, true], [false, false, true, true, false, false, false, true, false, true, false, true], [false, false, true, true, false, false, false, true, false, true, false, false], [false, false, true, true, false, false, false, true, false, false, true], [false, false, true, true, false, false, false, true, false, false, false, true], [false, false, true, true, false, false, false, true, false, false, false, false], [false, false, true, true, false, false, false, false, true, true, true], [false, false, true, true, false, false, false, false, true, true, false, true], [false, false, true, true, false, false, false, false, true, true, false, false], [false, false, true, true, false, false, false, false, true, false, true], [false, false, true, true, false, false, false, false, true, false, false, true], [false, false, true, true, false, false, false, false, true, false, false, false], [false, false, true, true, false, false, false, false, false, true, true], [false, false, true, true, false, false, false, false, false, true, false, true], [false, false, true, true, false, false, false, false, false, true, false, false], [false, false, true, true, false, false, false, false, false, false, true, true], [false, false, true, true, false, false, false, false, false, false, true, false], [false, false, true, true, false, false, false, false, false, false, false, true], [false, false, true, true, false, false, false, false, false, false, false, false], [false, false, true, false, true, true, true, true, true, true, true], [false, false, true, false, true, true, true, true, true, true, false, true], [false, false, true, false, true, true, true, true, true, true, false, false]]
theorem am_tq17 {args : Array Value} {s : State} (hs : ∀ w ∈ flatC (Jvm.Cond.and given_1 narrow_1), w.before args s = true) : ∃ q, am_tqs args s "PebbleProofsLaw" 285 17 q := am_tqm (by decide) hs (am_pm [false, false, true, true, false, false, true, false, true, true, true] (by decide +kernel) rfl) (am_pm [false, false, true, true, false, false, true, false, true, true, false, true] (by decide +kernel) rfl) (am_pm [false, false, true, true, false, false, true, false, true, true, false, false] (by decide +kernel) rfl) (am_pm [false, false, true, true, false, false, true, false, true, false, true] (by decide +kernel) rfl) (fun j hj => am_pm (am_tp17.getD j []) ((by decide +kernel : ∀ j, j < 37 → am_pa (Jvm.Cond.and given_1 narrow_1) (am_tp17.getD j []) = .eq (.elem (.field (.string "PebbleProofsLaw" 285) "java/lang/String" "value" "[B") (.int (Int32.ofNat j))) (.int ((am_tx 17).getD j 0))) j hj) rfl)
def am_tp18 : List (List Bool) := [[false, false, true, false, true, true, true, true, false, true, false, true], [false, false, true, false, true, true, true, true, false, true, false, false], [false, false, true, false, true, true, true, true, false, false, true], [false, false, true, false, true, true, true, true, false, false, false, true], [false, false, true, false, true, true, true, true, false, false, false, false], [false, false, true, false, true, true, true, false, true, true, true], [false, false, true, false, true, true, true, false, true, true, false, true], [false, false, true, false, true, true, true, false, true, true, false, false], [false, false, true, false, true, true, true, false, true, false, true], [false, false, true, false, true, true, true, false, true, false, false, true], [false, false, true, false, true, true, true, false, true, false, false, false]]
theorem am_tq18 {args : Array Value} {s : State} (hs : ∀ w ∈ flatC (Jvm.Cond.and given_1 narrow_1), w.before args s = true) : ∃ q, am_tqs args s "PebbleProofsLaw" 287 18 q := am_tqm (by decide) hs (am_pm [false, false, true, false, true, true, true, true, true, false, true] (by decide +kernel) rfl) (am_pm [false, false, true, false, true, true, true, true, true, false, false, true] (by decide +kernel) rfl) (am_pm [false, false, true, false, true, true, true, true, true, false, false, false] (by decide +kernel) rfl) (am_pm [false, false, true, false, true, true, true, true, false, true, true] (by decide +kernel) rfl) (fun j hj => am_pm (am_tp18.getD j []) ((by decide +kernel : ∀ j, j < 11 → am_pa (Jvm.Cond.and given_1 narrow_1) (am_tp18.getD j []) = .eq (.elem (.field (.string "PebbleProofsLaw" 287) "java/lang/String" "value" "[B") (.int (Int32.ofNat j))) (.int ((am_tx 18).getD j 0))) j hj) rfl)
def am_tp19 : List (List Bool) := [[false, false, true, false, true, true, true, false, false, false, true, false], [false, false, true, false, true, true, true, false, false, false, false, true], [false, false, true, false, true, true, true, false, false, false, false, false], [false, false, true, false, true, true, false, true, true, true, true], [false, false, true, false, true, true, false, true, true, true, false, true], [false, false, true, false, true, true, false, true, true, true, false, false], [false, false, true, false, true, true, false, true, true, false, true], [false, false, true, false, true, true, false, true, true, false, false, true], [false, false, true, false, true, true, false, true, true, false, false, false], [false, false, true, false, true, true, false, true, false, true, true], [false, false, true, false, true, true, false, true, false, true, false, true], [false, false, true, false, true, true, false, true, false, true, false, false], [false, false, true, false, true, true, false, true, false, false, true], [false, false, true, false, true, true, false, true, false, false, false, true], [false, false, true, false, true, true, false, true, false, false, false, false], [false, false, true, false, true, true, false, false, true, true, true], [false, false, true, false, true, true, false, false, true, true, false, true], [false, false, true, false, true, true, false, false, true, true, false, false], [false, false, true, false, true, true, false, false, true, false, true], [false, false, true, false, true, true, false, false, true, false, false, true], [false, false, true, false, true, true, false, false, true, false, false, false], [false, false, true, false, true, true, false, false, false, true, true], [false, false, true, false, true, true, false, false, false, true, false, true], [false, false, true, false, true, true, false, false, false, true, false, false], [false, false, true, false, true, true, false, false, false, false, true, true], [false, false, true, false, true, true, false, false, false, false, true, false], [false, false, true, false, true, true, false, false, false, false, false, true], [false, false, true, false, true, true, false, false, false, false, false, false], [false, false, true, false, true, false, true, true, true, true, true], [false, false, true, false, true, false, true, true, true, true, false, true], [false, false, true, false, true, false, true, true, true, true, false, false], [false, false, true, false, true, false, true, true, true, false, true], [false, false, true, false, true, false, true, true, true, false, false, true], [false, false, true, false, true, false, true, true, true, false, false, false]]
theorem am_tq19 {args : Array Value} {s : State} (hs : ∀ w ∈ flatC (Jvm.Cond.and given_1 narrow_1), w.before args s = true) : ∃ q, am_tqs args s "PebbleProofsLaw" 289 19 q := am_tqm (by decide) hs (am_pm [false, false, true, false, true, true, true, false, false, true, true] (by decide +kernel) rfl) (am_pm [false, false, true, false, true, true, true, false, false, true, false, true] (by decide +kernel) rfl) (am_pm [false, false, true, false, true, true, true, false, false, true, false, false] (by decide +kernel) rfl) (am_pm [false, false, true, false, true, true, true, false, false, false, true, true] (by decide +kernel) rfl) (fun j hj => am_pm (am_tp19.getD j []) ((by decide +kernel : ∀ j, j < 34 → am_pa (Jvm.Cond.and given_1 narrow_1) (am_tp19.getD j []) = .eq (.elem (.field (.string "PebbleProofsLaw" 289) "java/lang/String" "value" "[B") (.int (Int32.ofNat j))) (.int ((am_tx 19).getD j 0))) j hj) rfl)
def am_tp20 : List (List Bool) := [[false, false, true, false, true, false, true, true, false, false, false, true], [false, false, true, false, true, false, true, true, false, false, false, false], [false, false, true, false, true, false, true, false, true, true, true], [false, false, true, false, true, false, true, false, true, true, false, true], [false, false, true, false, true, false, true, false, true, true, false, false], [false, false, true, false, true, false, true, false, true, false, true], [false, false, true, false, true, false, true, false, true, false, false, true], [false, false, true, false, true, false, true, false, true, false, false, false], [false, false, true, false, true, false, true, false, false, true, true], [false, false, true, false, true, false, true, false, false, true, false, true], [false, false, true, false, true, false, true, false, false, true, false, false], [false, false, true, false, true, false, true, false, false, false, true, true], [false, false, true, false, true, false, true, false, false, false, true, false]]
theorem am_tq20 {args : Array Value} {s : State} (hs : ∀ w ∈ flatC (Jvm.Cond.and given_1 narrow_1), w.before args s = true) : ∃ q, am_tqs args s "PebbleProofsLaw" 291 20 q := am_tqm (by decide) hs (am_pm [false, false, true, false, true, false, true, true, false, true, true] (by decide +kernel) rfl) (am_pm [false, false, true, false, true, false, true, true, false, true, false, true] (by decide +kernel) rfl) (am_pm [false, false, true, false, true, false, true, true, false, true, false, false] (by decide +kernel) rfl) (am_pm [false, false, true, false, true, false, true, true, false, false, true] (by decide +kernel) rfl) (fun j hj => am_pm (am_tp20.getD j []) ((by decide +kernel : ∀ j, j < 13 → am_pa (Jvm.Cond.and given_1 narrow_1) (am_tp20.getD j []) = .eq (.elem (.field (.string "PebbleProofsLaw" 291) "java/lang/String" "value" "[B") (.int (Int32.ofNat j))) (.int ((am_tx 20).getD j 0))) j hj) rfl)
def am_tp21 : List (List Bool) := [[false, false, true, false, true, false, false, true, true, true, false, false], [false, false, true, false, true, false, false, true, true, false, true], [false, false, true, false, true, false, false, true, true, false, false, true], [false, false, true, false, true, false, false, true, true, false, false, false], [false, false, true, false, true, false, false, true, false, true, true], [false, false, true, false, true, false, false, true, false, true, false, true], [false, false, true, false, true, false, false, true, false, true, false, false], [false, false, true, false, true, false, false, true, false, false, true], [false, false, true, false, true, false, false, true, false, false, false, true], [false, false, true, false, true, false, false, true, false, false, false, false], [false, false, true, false, true, false, false, false, true, true, true], [false, false, true, false, true, false, false, false, true, true, false, true], [false, false, true, false, true, false, false, false, true, true, false, false], [false, false, true, false, true, false, false, false, true, false, true], [false, false, true, false, true, false, false, false, true, false, false, true], [false, false, true, false, true, false, false, false, true, false, false, false], [false, false, true, false, true, false, false, false, false, true, true], [false, false, true, false, true, false, false, false, false, true, false, true], [false, false, true, false, true, false, false, false, false, true, false, false]]
theorem am_tq21 {args : Array Value} {s : State} (hs : ∀ w ∈ flatC (Jvm.Cond.and given_1 narrow_1), w.before args s = true) : ∃ q, am_tqs args s "PebbleProofsLaw" 293 21 q := am_tqm (by decide) hs (am_pm [false, false, true, false, true, false, true, false, false, false, false, true] (by decide +kernel) rfl) (am_pm [false, false, true, false, true, false, true, false, false, false, false, false] (by decide +kernel) rfl) (am_pm [false, false, true, false, true, false, false, true, true, true, true] (by decide +kernel) rfl) (am_pm [false, false, true, false, true, false, false, true, true, true, false, true] (by decide +kernel) rfl) (fun j hj => am_pm (am_tp21.getD j []) ((by decide +kernel : ∀ j, j < 19 → am_pa (Jvm.Cond.and given_1 narrow_1) (am_tp21.getD j []) = .eq (.elem (.field (.string "PebbleProofsLaw" 293) "java/lang/String" "value" "[B") (.int (Int32.ofNat j))) (.int ((am_tx 21).getD j 0))) j hj) rfl)
def am_tp22 : List (List Bool) := [[false, false, true, false, false, true, true, true, true, true, true], [false, false, true, false, false, true, true, true, true, true, false, true], [false, false, true, false, false, true, true, true, true, true, false, false], [false, false, true, false, false, true, true, true, true, false, true], [false, false, true, false, false, true, true, true, true, false, false, true], [false, false, true, false, false, true, true, true, true, false, false, false], [false, false, true, false, false, true, true, true, false, true, true], [false, false, true, false, false, true, true, true, false, true, false, true], [false, false, true, false, false, true, true, true, false, true, false, false], [false, false, true, false, false, true, true, true, false, false, true], [false, false, true, false, false, true, true, true, false, false, false, true], [false, false, true, false, false, true, true, true, false, false, false, false], [false, false, true, false, false, true, true, false, true, true, true], [false, false, true, false, false, true, true, false, true, true, false, true], [false, false, true, false, false, true, true, false, true, true, false, false], [false, false, true, false, false, true, true, false, true, false, true], [false, false, true, false, false, true, true, false, true, false, false, true], [false, false, true, false, false, true, true, false, true, false, false, false], [false, false, true, false, false, true, true, false, false, true, true], [false, false, true, false, false, true, true, false, false, true, false, true], [false, false, true, false, false, true, true, false, false, true, false, false], [false, false, true, false, false, true, true, false, false, false, true, true], [false, false, true, false, false, true, true, false, false, false, true, false], [false, false, true, false, false, true, true, false, false, false, false, true], [false, false, true, false, false, true, true, false, false, false, false, false], [false, false, true, false, false, true, false, true, true, true, true], [false, false, true, false, false, true, false, true, true, true, false, true], [false, false, true, false, false, true, false, true, true, true, false, false], [false, false, true, false, false, true, false, true, true, false, true], [false, false, true, false, false, true, false, true, true, false, false, true], [false, false, true, false, false, true, false, true, true, false, false, false], [false, false, true, false, false, true, false, true, false, true, true], [false, false, true, false, false, true, false, true, false, true, false, true], [false, false, true, false, false, true, false, true, false, true, false, false], [false, false, true, false, false, true, false, true, false, false, true], [false, false, true, false, false, true, false, true, false, false, false, true], [false, false, true, false, false, true, false, true, false, false, false, false], [false, false, true, false, false, true, false, false, true, true, true], [false, false, true, false, false, true, false, false, true, true, false, true], [false, false, true, false, false, true, false, false, true, true, false, false], [false, false, true, false, false, true, false, false, true, false, true], [false, false, true, false, false, true, false, false, true, false, false, true], [false, false, true, false, false, true, false, false, true, false, false, false], [false, false, true, false, false, true, false, false, false, true, true], [false, false, true, false, false, true, false, false, false, true, false, true], [false, false, true, false, false, true, false, false, false, true, false, false], [false, false, true, false, false, true, false, false, false, false, true, true], [false, false, true, false, false, true, false, false, false, false, true, false], [false, false, true, false, false, true, false, false, false, false, false, true], [false, false, true, false, false, true, false, false, false, false, false, false], [false, false, true, false, false, false, true, true, true, true, true], [false, false, true, false, false, false, true, true, true, true, false, true], [false, false, true, false, false, false, true, true, true, true, false, false], [false, false, true, false, false, false, true, true, true, false, true], [false, false, true, false, false, false, true, true, true, false, false, true], [false, false, true, false, false, false, true, true, true, false, false, false], [false, false, true, false, false, false, true, true, false, true, true], [false, false, true, false, false, false, true, true, false, true, false, true], [false, false, true, false, false, false, true, true, false, true, false, false], [false, false, true, false, false, false, true, true, false, false, true], [false, false, true, false, false, false, true, true, false, false, false, true], [false, false, true, false, false, false, true, true, false, false, false, false], [false, false, true, false, false, false, true, false, true, true, true], [false, false, true, false, false, false, true, false, true, true, false, true], [false, false, true, false, false, false, true, false, true, true, false, false], [false, false, true, false, false, false, true, false, true, false, true], [false, false, true, false, false, false, true, false, true, false, false, true], [false, false, true, false, false, false, true, false, true, false, false, false], [false, false, true, false, false, false, true, false, false, true, true], [false, false, true, false, false, false, true, false, false, true, false, true], [false, false, true, false, false, false, true, false, false, true, false, false], [false, false, true, false, false, false, true, false, false, false, true, true], [false, false, true, false, false, false, true, false, false, false, true, false], [false, false, true, false, false, false, true, false, false, false, false, true], [false, false, true, false, false, false, true, false, false, false, false, false], [false, false, true, false, false, false, false, true, true, true, true], [false, false, true, false, false, false, false, true, true, true, false, true], [false, false, true, false, false, false, false, true, true, true, false, false], [false, false, true, false, false, false, false, true, true, false, true], [false, false, true, false, false, false, false, true, true, false, false, true], [false, false, true, false, false, false, false, true, true, false, false, false], [false, false, true, false, false, false, false, true, false, true, true], [false, false, true, false, false, false, false, true, false, true, false, true], [false, false, true, false, false, false, false, true, false, true, false, false], [false, false, true, false, false, false, false, true, false, false, true], [false, false, true, false, false, false, false, true, false, false, false, true], [false, false, true, false, false, false, false, true, false, false, false, false]]
theorem am_tq22 {args : Array Value} {s : State} (hs : ∀ w ∈ flatC (Jvm.Cond.and given_1 narrow_1), w.before args s = true) : ∃ q, am_tqs args s "PebbleProofsLaw" 295 22 q := am_tqm (by decide) hs (am_pm [false, false, true, false, true, false, false, false, false, false, true, true] (by decide +kernel) rfl) (am_pm [false, false, true, false, true, false, false, false, false, false, true, false] (by decide +kernel) rfl) (am_pm [false, false, true, false, true, false, false, false, false, false, false, true] (by decide +kernel) rfl) (am_pm [false, false, true, false, true, false, false, false, false, false, false, false] (by decide +kernel) rfl) (fun j hj => am_pm (am_tp22.getD j []) ((by decide +kernel : ∀ j, j < 87 → am_pa (Jvm.Cond.and given_1 narrow_1) (am_tp22.getD j []) = .eq (.elem (.field (.string "PebbleProofsLaw" 295) "java/lang/String" "value" "[B") (.int (Int32.ofNat j))) (.int ((am_tx 22).getD j 0))) j hj) rfl)
def am_tp23 : List (List Bool) := [[false, true, true, false, false, true, false, false, true, false, false, true], [false, true, true, false, false, true, false, false, true, false, false, false], [false, true, true, false, false, true, false, false, false, true, true], [false, true, true, false, false, true, false, false, false, true, false, true], [false, true, true, false, false, true, false, false, false, true, false, false], [false, true, true, false, false, true, false, false, false, false, true, true], [false, true, true, false, false, true, false, false, false, false, true, false], [false, true, true, false, false, true, false, false, false, false, false, true], [false, true, true, false, false, true, false, false, false, false, false, false]]
theorem am_tq23 {args : Array Value} {s : State} (hs : ∀ w ∈ flatC (Jvm.Cond.and given_1 narrow_1), w.before args s = true) : ∃ q, am_tqs args s "PebbleProofsLaw$Yard" 100 23 q := am_tqm (by decide) hs (am_pm [false, true, true, false, false, true, false, false, true, true, true] (by decide +kernel) rfl) (am_pm [false, true, true, false, false, true, false, false, true, true, false, true] (by decide +kernel) rfl) (am_pm [false, true, true, false, false, true, false, false, true, true, false, false] (by decide +kernel) rfl) (am_pm [false, true, true, false, false, true, false, false, true, false, true] (by decide +kernel) rfl) (fun j hj => am_pm (am_tp23.getD j []) ((by decide +kernel : ∀ j, j < 9 → am_pa (Jvm.Cond.and given_1 narrow_1) (am_tp23.getD j []) = .eq (.elem (.field (.string "PebbleProofsLaw$Yard" 100) "java/lang/String" "value" "[B") (.int (Int32.ofNat j))) (.int ((am_tx 23).getD j 0))) j hj) rfl)
def am_tp24 : List (List Bool) := [[false, true, true, false, false, false, true, true, false, false, false, false], [false, true, true, false, false, false, true, false, true, true, true], [false, true, true, false, false, false, true, false, true, true, false, true], [false, true, true, false, false, false, true, false, true, true, false, false], [false, true, true, false, false, false, true, false, true, false, true], [false, true, true, false, false, false, true, false, true, false, false, true]]
theorem am_tq24 {args : Array Value} {s : State} (hs : ∀ w ∈ flatC (Jvm.Cond.and given_1 narrow_1), w.before args s = true) : ∃ q, am_tqs args s "PebbleProofsLaw$Yard" 116 24 q := am_tqm (by decide) hs (am_pm [false, true, true, false, false, false, true, true, false, true, false, true] (by decide +kernel) rfl) (am_pm [false, true, true, false, false, false, true, true, false, true, false, false] (by decide +kernel) rfl) (am_pm [false, true, true, false, false, false, true, true, false, false, true] (by decide +kernel) rfl) (am_pm [false, true, true, false, false, false, true, true, false, false, false, true] (by decide +kernel) rfl) (fun j hj => am_pm (am_tp24.getD j []) ((by decide +kernel : ∀ j, j < 6 → am_pa (Jvm.Cond.and given_1 narrow_1) (am_tp24.getD j []) = .eq (.elem (.field (.string "PebbleProofsLaw$Yard" 116) "java/lang/String" "value" "[B") (.int (Int32.ofNat j))) (.int ((am_tx 24).getD j 0))) j hj) rfl)
def am_tp25 : List (List Bool) := [[false, true, true, false, false, false, true, false, false, false, true, true], [false, true, true, false, false, false, true, false, false, false, true, false], [false, true, true, false, false, false, true, false, false, false, false, true], [false, true, true, false, false, false, true, false, false, false, false, false], [false, true, true, false, false, false, false, true, true, true, true], [false, true, true, false, false, false, false, true, true, true, false, true], [false, true, true, false, false, false, false, true, true, true, false, false], [false, true, true, false, false, false, false, true, true, false, true]]
theorem am_tq25 {args : Array Value} {s : State} (hs : ∀ w ∈ flatC (Jvm.Cond.and given_1 narrow_1), w.before args s = true) : ∃ q, am_tqs args s "PebbleProofsLaw$Yard" 121 25 q := am_tqm (by decide) hs (am_pm [false, true, true, false, false, false, true, false, true, false, false, false] (by decide +kernel) rfl) (am_pm [false, true, true, false, false, false, true, false, false, true, true] (by decide +kernel) rfl) (am_pm [false, true, true, false, false, false, true, false, false, true, false, true] (by decide +kernel) rfl) (am_pm [false, true, true, false, false, false, true, false, false, true, false, false] (by decide +kernel) rfl) (fun j hj => am_pm (am_tp25.getD j []) ((by decide +kernel : ∀ j, j < 8 → am_pa (Jvm.Cond.and given_1 narrow_1) (am_tp25.getD j []) = .eq (.elem (.field (.string "PebbleProofsLaw$Yard" 121) "java/lang/String" "value" "[B") (.int (Int32.ofNat j))) (.int ((am_tx 25).getD j 0))) j hj) rfl)
def am_tp26 : List (List Bool) := [[false, true, true, false, false, false, false, true, false, true, false, false], [false, true, true, false, false, false, false, true, false, false, true], [false, true, true, false, false, false, false, true, false, false, false, true], [false, true, true, false, false, false, false, true, false, false, false, false], [false, true, true, false, false, false, false, false, true, true, true], [false, true, true, false, false, false, false, false, true, true, false, true], [false, true, true, false, false, false, false, false, true, true, false, false], [false, true, true, false, false, false, false, false, true, false, true], [false, true, true, false, false, false, false, false, true, false, false, true], [false, true, true, false, false, false, false, false, true, false, false, false]]
theorem am_tq26 {args : Array Value} {s : State} (hs : ∀ w ∈ flatC (Jvm.Cond.and given_1 narrow_1), w.before args s = true) : ∃ q, am_tqs args s "PebbleProofsLaw$Yard" 123 26 q := am_tqm (by decide) hs (am_pm [false, true, true, false, false, false, false, true, true, false, false, true] (by decide +kernel) rfl) (am_pm [false, true, true, false, false, false, false, true, true, false, false, false] (by decide +kernel) rfl) (am_pm [false, true, true, false, false, false, false, true, false, true, true] (by decide +kernel) rfl) (am_pm [false, true, true, false, false, false, false, true, false, true, false, true] (by decide +kernel) rfl) (fun j hj => am_pm (am_tp26.getD j []) ((by decide +kernel : ∀ j, j < 10 → am_pa (Jvm.Cond.and given_1 narrow_1) (am_tp26.getD j []) = .eq (.elem (.field (.string "PebbleProofsLaw$Yard" 123) "java/lang/String" "value" "[B") (.int (Int32.ofNat j))) (.int ((am_tx 26).getD j 0))) j hj) rfl)
def am_dp101 : List (List Bool) := [[false, true, true, true, true, true, true, false, true, false, false, true], [false, true, true, true, true, true, true, false, true, false, false, false], [false, true, true, true, true, true, true, false, false, true, true], [false, true, true, true, true, true, true, false, false, true, false, true], [false, true, true, true, true, true, true, false, false, true, false, false], [false, true, true, true, true, true, true, false, false, false, true, true], [false, true, true, true, true, true, true, false, false, false, true, false], [false, true, true, true, true, true, true, false, false, false, false, true], [false, true, true, true, true, true, true, false, false, false, false, false], [false, true, true, true, true, true, false, true, true, true, true], [false, true, true, true, true, true, false, true, true, true, false, true], [false, true, true, true, true, true, false, true, true, true, false, false], [false, true, true, true, true, true, false, true, true, false, true], [false, true, true, true, true, true, false, true, true, false, false, true], [false, true, true, true, true, true, false, true, true, false, false, false], [false, true, true, true, true, true, false, true, false, true, true], [false, true, true, true, true, true, false, true, false, true, false, true], [false, true, true, true, true, true, false, true, false, true, false, false], [false, true, true, true, true, true, false, true, false, false, true], [false, true, true, true, true, true, false, true, false, false, false, true], [false, true, true, true, true, true, false, true, false, false, false, false], [false, true, true, true, true, true, false, false, true, true, true], [false, true, true, true, true, true, false, false, true, true, false, true], [false, true, true, true, true, true, false, false, true, true, false, false], [false, true, true, true, true, true, false, false, true, false, true], [false, true, true, true, true, true, false, false, true, false, false, true], [false, true, true, true, true, true, false, false, true, false, false, false], [false, true, true, true, true, true, false, false, false, true, true], [false, true, true, true, true, true, false, false, false, true, false, true], [false, true, true, true, true, true, false, false, false, true, false, false], [false, true, true, true, true, true, false, false, false, false, true, true], [false, true, true, true, true, true, false, false, false, false, true, false], [false, true, true, true, true, true, false, false, false, false, false, true], [false, true, true, true, true, true, false, false, false, false, false, false], [false, true, true, true, true, false, true, true, true, true, true], [false, true, true, true, true, false, true, true, true, true, false, true], [false, true, true, true, true, false, true, true, true, true, false, false], [false, true, true, true, true, false, true, true, true, false, true], [false, true, true, true, true, false, true, true, true, false, false, true], [false, true, true, true, true, false, true, true, true, false, false, false], [false, true, true, true, true, false, true, true, false, true, true], [false, true, true, true, true, false, true, true, false, true, false, true], [false, true, true, true, true, false, true, true, false, true, false, false], [false, true, true, true, true, false, true, true, false, false, true], [false, true, true, true, true, false, true, true, false, false, false, true], [false, true, true, true, true, false, true, true, false, false, false, false], [false, true, true, true, true, false, true, false, true, true, true], [false, true, true, true, true, false, true, false, true, true, false, true], [false, true, true, true, true, false, true, false, true, true, false, false], [false, true, true, true, true, false, true, false, true, false, true], [false, true, true, true, true, false, true, false, true, false, false, true], [false, true, true, true, true, false, true, false, true, false, false, false], [false, true, true, true, true, false, true, false, false, true, true], [false, true, true, true, true, false, true, false, false, true, false, true], [false, true, true, true, true, false, true, false, false, true, false, false], [false, true, true, true, true, false, true, false, false, false, true, true], [false, true, true, true, true, false, true, false, false, false, true, false], [false, true, true, true, true, false, true, false, false, false, false, true], [false, true, true, true, true, false, true, false, false, false, false, false], [false, true, true, true, true, false, false, true, true, true, true], [false, true, true, true, true, false, false, true, true, true, false, true], [false, true, true, true, true, false, false, true, true, true, false, false], [false, true, true, true, true, false, false, true, true, false, true], [false, true, true, true, true, false, false, true, true, false, false, true], [false, true, true, true, true, false, false, true, true, false, false, false], [false, true, true, true, true, false, false, true, false, true, true], [false, true, true, true, true, false, false, true, false, true, false, true], [false, true, true, true, true, false, false, true, false, true, false, false], [false, true, true, true, true, false, false, true, false, false, true], [false, true, true, true, true, false, false, true, false, false, false, true], [false, true, true, true, true, false, false, true, false, false, false, false], [false, true, true, true, true, false, false, false, true, true, true], [false, true, true, true, true, false, false, false, true, true, false, true], [false, true, true, true, true, false, false, false, true, true, false, false], [false, true, true, true, true, false, false, false, true, false, true], [false, true, true, true, true, false, false, false, true, false, false, true], [false, true, true, true, true, false, false, false, true, false, false, false], [false, true, true, true, true, false, false, false, false, true, true], [false, true, true, true, true, false, false, false, false, true, false, true], [false, true, true, true, true, false, false, false, false, true, false, false], [false, true, true, true, true, false, false, false, false, false, true, true], [false, true, true, true, true, false, false, false, false, false, true, false], [false, true, true, true, true, false, false, false, false, false, false, true], [false, true, true, true, true, false, false, false, false, false, false, false], [false, true, true, true, false, true, true, true, true, true, true], [false, true, true, true, false, true, true, true, true, true, false, true], [false, true, true, true, false, true, true, true, true, true, false, false], [false, true, true, true, false, true, true, true, true, false, true], [false, true, true, true, false, true, true, true, true, false, false, true], [false, true, true, true, false, true, true, true, true, false, false, false], [false, true, true, true, false, true, true, true, false, true, true], [false, true, true, true, false, true, true, true, false, true, false, true], [false, true, true, true, false, true, true, true, false, true, false, false], [false, true, true, true, false, true, true, true, false, false, true], [false, true, true, true, false, true, true, true, false, false, false, true], [false, true, true, true, false, true, true, true, false, false, false, false], [false, true, true, true, false, true, true, false, true, true, true], [false, true, true, true, false, true, true, false, true, true, false, true], [false, true, true, true, false, true, true, false, true, true, false, false], [false, true, true, true, false, true, true, false, true, false, true]]
theorem am_dq101 {args : Array Value} {s : State} (hs : ∀ w ∈ flatC (Jvm.Cond.and given_1 narrow_1), w.before args s = true) : ∃ t : Nat, (Term.static "java/lang/Integer" "DigitOnes" "[B").eval args s none [] s = some (.ref t) ∧ va_T .byte t 100 (fun j => .int (am_d1 j)) (fun z : Nat => s.heap.size ≤ z) s s.heap := by
  obtain ⟨t, h1, h2⟩ := va_Tof (A := fun z : Nat => s.heap.size ≤ z) (N := 100) (f := fun j => .int (am_d1 j)) (tm := .static "java/lang/Integer" "DigitOnes" "[B") (ty := .byte) (by decide) (hs _ (am_pm [false, true, true, true, true, true, true, false, true, true, false, false] (by decide +kernel) rfl)) (am_evi (x := 100) (hs (.eq (.length (.static "java/lang/Integer" "DigitOnes" "[B")) (.int 100)) (am_pm [false, true, true, true, true, true, true, false, true, false, true] (by decide +kernel) rfl))) (fun j hj => am_evi (hs _ (am_pm (am_dp101.getD j []) ((by decide +kernel : ∀ j, j < 100 → am_pa (Jvm.Cond.and given_1 narrow_1) (am_dp101.getD j []) = .eq (.elem (.static "java/lang/Integer" "DigitOnes" "[B") (.int (Int32.ofNat j))) (.int (am_d1 j))) j hj) rfl))) (fun a ha => Nat.not_le.mpr ha)
  exact ⟨t, h1, h2⟩
def am_dp102 : List (List Bool) := [[false, true, true, true, false, true, true, false, false, true, false, true], [false, true, true, true, false, true, true, false, false, true, false, false], [false, true, true, true, false, true, true, false, false, false, true, true], [false, true, true, true, false, true, true, false, false, false, true, false], [false, true, true, true, false, true, true, false, false, false, false, true], [false, true, true, true, false, true, true, false, false, false, false, false], [false, true, true, true, false, true, false, true, true, true, true], [false, true, true, true, false, true, false, true, true, true, false, true], [false, true, true, true, false, true, false, true, true, true, false, false], [false, true, true, true, false, true, false, true, true, false, true], [false, true, true, true, false, true, false, true, true, false, false, true], [false, true, true, true, false, true, false, true, true, false, false, false], [false, true, true, true, false, true, false, true, false, true, true], [false, true, true, true, false, true, false, true, false, true, false, true], [false, true, true, true, false, true, false, true, false, true, false, false], [false, true, true, true, false, true, false, true, false, false, true], [false, true, true, true, false, true, false, true, false, false, false, true], [false, true, true, true, false, true, false, true, false, false, false, false], [false, true, true, true, false, true, false, false, true, true, true], [false, true, true, true, false, true, false, false, true, true, false, true], [false, true, true, true, false, true, false, false, true, true, false, false], [false, true, true, true, false, true, false, false, true, false, true], [false, true, true, true, false, true, false, false, true, false, false, true], [false, true, true, true, false, true, false, false, true, false, false, false], [false, true, true, true, false, true, false, false, false, true, true], [false, true, true, true, false, true, false, false, false, true, false, true], [false, true, true, true, false, true, false, false, false, true, false, false], [false, true, true, true, false, true, false, false, false, false, true, true], [false, true, true, true, false, true, false, false, false, false, true, false], [false, true, true, true, false, true, false, false, false, false, false, true], [false, true, true, true, false, true, false, false, false, false, false, false], [false, true, true, true, false, false, true, true, true, true, true], [false, true, true, true, false, false, true, true, true, true, false, true], [false, true, true, true, false, false, true, true, true, true, false, false], [false, true, true, true, false, false, true, true, true, false, true], [false, true, true, true, false, false, true, true, true, false, false, true], [false, true, true, true, false, false, true, true, true, false, false, false], [false, true, true, true, false, false, true, true, false, true, true], [false, true, true, true, false, false, true, true, false, true, false, true], [false, true, true, true, false, false, true, true, false, true, false, false], [false, true, true, true, false, false, true, true, false, false, true], [false, true, true, true, false, false, true, true, false, false, false, true], [false, true, true, true, false, false, true, true, false, false, false, false], [false, true, true, true, false, false, true, false, true, true, true], [false, true, true, true, false, false, true, false, true, true, false, true], [false, true, true, true, false, false, true, false, true, true, false, false], [false, true, true, true, false, false, true, false, true, false, true], [false, true, true, true, false, false, true, false, true, false, false, true], [false, true, true, true, false, false, true, false, true, false, false, false], [false, true, true, true, false, false, true, false, false, true, true], [false, true, true, true, false, false, true, false, false, true, false, true], [false, true, true, true, false, false, true, false, false, true, false, false], [false, true, true, true, false, false, true, false, false, false, true, true], [false, true, true, true, false, false, true, false, false, false, true, false], [false, true, true, true, false, false, true, false, false, false, false, true], [false, true, true, true, false, false, true, false, false, false, false, false], [false, true, true, true, false, false, false, true, true, true, true], [false, true, true, true, false, false, false, true, true, true, false, true], [false, true, true, true, false, false, false, true, true, true, false, false], [false, true, true, true, false, false, false, true, true, false, true], [false, true, true, true, false, false, false, true, true, false, false, true], [false, true, true, true, false, false, false, true, true, false, false, false], [false, true, true, true, false, false, false, true, false, true, true], [false, true, true, true, false, false, false, true, false, true, false, true], [false, true, true, true, false, false, false, true, false, true, false, false], [false, true, true, true, false, false, false, true, false, false, true], [false, true, true, true, false, false, false, true, false, false, false, true], [false, true, true, true, false, false, false, true, false, false, false, false], [false, true, true, true, false, false, false, false, true, true, true], [false, true, true, true, false, false, false, false, true, true, false, true], [false, true, true, true, false, false, false, false, true, true, false, false], [false, true, true, true, false, false, false, false, true, false, true], [false, true, true, true, false, false, false, false, true, false, false, true], [false, true, true, true, false, false, false, false, true, false, false, false], [false, true, true, true, false, false, false, false, false, true, true], [false, true, true, true, false, false, false, false, false, true, false, true], [false, true, true, true, false, false, false, false, false, true, false, false], [false, true, true, true, false, false, false, false, false, false, true, true], [false, true, true, true, false, false, false, false, false, false, true, false], [false, true, true, true, false, false, false, false, false, false, false, true], [false, true, true, true, false, false, false, false, false, false, false, false], [false, true, true, false, true, true, true, true, true, true, true], [false, true, true, false, true, true, true, true, true, true, false, true], [false, true, true, false, true, true, true, true, true, true, false, false], [false, true, true, false, true, true, true, true, true, false, true], [false, true, true, false, true, true, true, true, true, false, false, true], [false, true, true, false, true, true, true, true, true, false, false, false], [false, true, true, false, true, true, true, true, false, true, true], [false, true, true, false, true, true, true, true, false, true, false, true], [false, true, true, false, true, true, true, true, false, true, false, false], [false, true, true, false, true, true, true, true, false, false, true], [false, true, true, false, true, true, true, true, false, false, false, true], [false, true, true, false, true, true, true, true, false, false, false, false], [false, true, true, false, true, true, true, false, true, true, true], [false, true, true, false, true, true, true, false, true, true, false, true], [false, true, true, false, true, true, true, false, true, true, false, false], [false, true, true, false, true, true, true, false, true, false, true], [false, true, true, false, true, true, true, false, true, false, false, true], [false, true, true, false, true, true, true, false, true, false, false, false], [false, true, true, false, true, true, true, false, false, true, true]]
theorem am_dq102 {args : Array Value} {s : State} (hs : ∀ w ∈ flatC (Jvm.Cond.and given_1 narrow_1), w.before args s = true) : ∃ t : Nat, (Term.static "java/lang/Integer" "DigitTens" "[B").eval args s none [] s = some (.ref t) ∧ va_T .byte t 100 (fun j => .int (am_dt j)) (fun z : Nat => s.heap.size ≤ z) s s.heap := by
  obtain ⟨t, h1, h2⟩ := va_Tof (A := fun z : Nat => s.heap.size ≤ z) (N := 100) (f := fun j => .int (am_dt j)) (tm := .static "java/lang/Integer" "DigitTens" "[B") (ty := .byte) (by decide) (hs _ (am_pm [false, true, true, true, false, true, true, false, true, false, false, false] (by decide +kernel) rfl)) (am_evi (x := 100) (hs (.eq (.length (.static "java/lang/Integer" "DigitTens" "[B")) (.int 100)) (am_pm [false, true, true, true, false, true, true, false, false, true, true] (by decide +kernel) rfl))) (fun j hj => am_evi (hs _ (am_pm (am_dp102.getD j []) ((by decide +kernel : ∀ j, j < 100 → am_pa (Jvm.Cond.and given_1 narrow_1) (am_dp102.getD j []) = .eq (.elem (.static "java/lang/Integer" "DigitTens" "[B") (.int (Int32.ofNat j))) (.int (am_dt j))) j hj) rfl))) (fun a ha => Nat.not_le.mpr ha)
  exact ⟨t, h1, h2⟩
theorem am_dq100 {args : Array Value} {s : State} (hs : ∀ w ∈ flatC (Jvm.Cond.and given_1 narrow_1), w.before args s = true) : ∃ t : Nat, (Term.static "java/util/ArrayList" "DEFAULTCAPACITY_EMPTY_ELEMENTDATA" "[Ljava/lang/Object;").eval args s none [] s = some (.ref t) ∧ va_T (.object "java/lang/Object") t 0 (fun _ => .null) (fun z : Nat => s.heap.size ≤ z) s s.heap := by
  obtain ⟨t, h1, h2⟩ := va_Tof (A := fun z : Nat => s.heap.size ≤ z) (N := 0) (f := fun _ => .null) (tm := .static "java/util/ArrayList" "DEFAULTCAPACITY_EMPTY_ELEMENTDATA" "[Ljava/lang/Object;") (ty := .object "java/lang/Object") (by decide) (hs _ (am_pm [false, true, true, true, true, true, true, true, false, true, false, false] (by decide +kernel) rfl)) (am_evi (x := 0) (hs (.eq (.length (.static "java/util/ArrayList" "DEFAULTCAPACITY_EMPTY_ELEMENTDATA" "[Ljava/lang/Object;")) (.int 0)) (am_pm [false, true, true, true, true, true, true, true, false, false, false, true] (by decide +kernel) rfl))) (fun j hj => absurd hj (Nat.not_lt_zero j)) (fun a ha => Nat.not_le.mpr ha)
  exact ⟨t, h1, h2⟩
def am_tow : Nat → String × Nat := fun i => match i with
  | 0 => ("PebbleProofs$SetupText", 82)
  | 1 => ("PebbleProofs$SetupText", 91)
  | 2 => ("PebbleProofs$SetupText", 96)
  | 3 => ("PebbleProofs$SetupText", 101)
  | 4 => ("PebbleProofsLaw", 255)
  | 5 => ("PebbleProofsLaw", 261)
  | 6 => ("PebbleProofsLaw", 263)
  | 7 => ("PebbleProofsLaw", 265)
  | 8 => ("PebbleProofsLaw", 267)
  | 9 => ("PebbleProofsLaw", 269)
  | 10 => ("PebbleProofsLaw", 271)
  | 11 => ("PebbleProofsLaw", 273)
  | 12 => ("PebbleProofsLaw", 275)
  | 13 => ("PebbleProofsLaw", 277)
  | 14 => ("PebbleProofsLaw", 279)
  | 15 => ("PebbleProofsLaw", 281)
  | 16 => ("PebbleProofsLaw", 283)
  | 17 => ("PebbleProofsLaw", 285)
  | 18 => ("PebbleProofsLaw", 287)
  | 19 => ("PebbleProofsLaw", 289)
  | 20 => ("PebbleProofsLaw", 291)
  | 21 => ("PebbleProofsLaw", 293)
  | 22 => ("PebbleProofsLaw", 295)
  | 23 => ("PebbleProofsLaw$Yard", 100)
  | 24 => ("PebbleProofsLaw$Yard", 116)
  | 25 => ("PebbleProofsLaw$Yard", 121)
  | 26 => ("PebbleProofsLaw$Yard", 123)
  | _ => ("", 0)
theorem am_tqa {args : Array Value} {s : State} (hs : ∀ w ∈ flatC (Jvm.Cond.and given_1 narrow_1), w.before args s = true) : ∀ i, i < 27 → ∃ q, am_tqs args s (am_tow i).1 (am_tow i).2 i q := fun i hi => match i, hi with
  | 0, _ => am_tq0 hs
  | 1, _ => am_tq1 hs
  | 2, _ => am_tq2 hs
  | 3, _ => am_tq3 hs
  | 4, _ => am_tq4 hs
  | 5, _ => am_tq5 hs
  | 6, _ => am_tq6 hs
  | 7, _ => am_tq7 hs
  | 8, _ => am_tq8 hs
  | 9, _ => am_tq9 hs
  | 10, _ => am_tq10 hs
  | 11, _ => am_tq11 hs
  | 12, _ => am_tq12 hs
  | 13, _ => am_tq13 hs
  | 14, _ => am_tq14 hs
  | 15, _ => am_tq15 hs
  | 16, _ => am_tq16 hs
  | 17, _ => am_tq17 hs
  | 18, _ => am_tq18 hs
  | 19, _ => am_tq19 hs
  | 20, _ => am_tq20 hs
  | 21, _ => am_tq21 hs
  | 22, _ => am_tq22 hs
  | 23, _ => am_tq23 hs
  | 24, _ => am_tq24 hs
  | 25, _ => am_tq25 hs
  | 26, _ => am_tq26 hs
  | i + 27, hi => absurd hi (show ¬ i + 27 < 27 by omega)
theorem am_tqf {args : Array Value} {s : State} (hs : ∀ w ∈ flatC (Jvm.Cond.and given_1 narrow_1), w.before args s = true) : ∃ F : Nat → Nat × Nat, ∀ i, i < 27 → am_tqs args s (am_tow i).1 (am_tow i).2 i (F i) := by
  refine ⟨fun i => if h : i < 27 then Classical.choose (am_tqa hs i h) else (0, 0), fun i h => ?_⟩
  dsimp only
  rw [dif_pos h]
  exact Classical.choose_spec (am_tqa hs i h)
theorem am_srw : ∀ q ∈ am_sr, q.2.2 < 27 ∧ am_tow q.2.2 = (q.1, q.2.1) ∧ Jvm.Cond.stringRef q.1 q.2.1 (am_txs q.2.2) ∈ lw_tbl := by decide +kernel
end
section
/-! ===== the claim out of one theorem about the abstract machine (by wip/p47/mk17.py) ===== -/
def am_LawOk : Prop := ∀ (L : Nat) (xs : Nat → Int32), L ≤ 260 → ∃ (f : Nat) (h1 : AHp) (kk nn : Nat), am_exec (am_call (some (L, xs)) 300 f) am_M389 300 (some (L, xs)) f (0, am_entry 11 [.ref am_SB], [], [], 0, 0) = some (.inl (some (.int 1)), h1, kk, nn) ∧ kk ≤ 600000 ∧ nn ≤ 7000000
theorem am_exec_nm {cf : Nat → List Value → AHp → Option ARe} {x y : MethodName} {R : ByteArray × Nat × Nat × Option FieldType × List (Nat × Nat × Nat × Nat × Nat) × List AEn} {d : Nat} {scr : ASc} : ∀ (f : Nat) (S : ASt), am_exec cf (x, R) d scr f S = am_exec cf (y, R) d scr f S := by
  intro f
  induction f with
  | zero => intro S; rfl
  | succ f ih =>
    intro S
    obtain ⟨pc, ls, st, h, k, n⟩ := S
    simp only [am_exec, ih, am_land]
def am_isput : Instr → Bool
  | .putfield _ => true
  | _ => false
theorem am_okE_nm {own nm nm2 : String} {cc : ByteArray} {E : AEn} {J : List (Nat × Nat)} (h : am_isput E.2.1 = false) : am_okE own nm cc E J = am_okE own nm2 cc E J := by
  obtain ⟨pc, i, r1, r2⟩ := E
  cases i <;> first | rfl | cases h
theorem am_lawput : am_M389.2.2.2.2.2.2.all (fun E => !am_isput E.2.1) = true := by decide +kernel
theorem am_lawB2 (nm : String) : am_okB (⟨"PebbleProofsLaw", nm, "([I)Z"⟩, am_M389.2) := by
  intro pc E h
  obtain ⟨J, hJ⟩ := am_lawB pc E h
  have h2 := List.all_eq_true.mp am_lawput E (am_find_mem h)
  refine ⟨J, ?_⟩
  rw [← hJ]
  exact am_okE_nm (by simpa using h2)
theorem am_arra {s : State} {args : Array Value} {ty : FieldType} (h : (Jvm.Cond.arrayOver (.array ty)).before args s = true) : ∃ g, ArrOfT s g (.array ty) ∧ va_RA s g (.array ty) := by
  obtain ⟨comp, g, kA, h1, h2, h3, h4, h5⟩ := arrayOverA_spec h
  exact ⟨g, fun n z => ⟨fun k h => (by cases h), kA, h3, comp, h4⟩, h5⟩
theorem am_ncs : ∀ i, i < 3 → ∀ j, j < 3 → ¬ i = j → Jvm.Cond.not (.castable (am_exn i) (am_exn j)) ∈ flatC (Jvm.Cond.and given_1 narrow_1) := by decide +kernel
theorem am_strR {args : Array Value} {s : State} {own tx : String} {idx : Nat} (h : (Jvm.Cond.stringRef own idx tx).before args s = true) : ∃ a, vk_R own idx tx a s := by
  have hcur : ∃ cur, s.vm.findClass own = some cur := by
    have h1 := h
    simp only [Cond.before, Cond.holds, Cond.value] at h1
    cases hc : s.vm.findClass own with
    | none => simp [hc] at h1
    | some cur => exact ⟨cur, rfl⟩
  obtain ⟨cur, hcur⟩ := hcur
  obtain ⟨k, cf, i, a, -, -, -, -, -, hev⟩ := Cond.stringRef_spec hcur h
  exact ⟨a, vk_R.of h hev⟩
set_option maxHeartbeats 2000000 in
theorem am_whole (hlaw : am_LawOk) {p : Program} {e : Env} {s : State} {m : MethodId} {below : List Frame} {meth : Method} {c : Code} (l : Launch) (hflags : l.flags = flags0) {b L : Nat} {xs : Nat → Int32} (hL : L ≤ 260) (C0 : lw_At p s m meth c b L xs) : W p l e room_1 s m #[Value.ref b] below meth c s.heap [] 0 0 (lw_Z below #[Value.ref b] s) (entryFrame m ([Value.ref b] : List Value).toArray 11) := by
  obtain ⟨hx, hb, hr, hml, hown, hts, hX, hbl, hlocks, hgv⟩ := id C0
  have hs := flat_of_before _ hgv
  have hA : ∀ a : Nat, a < s.heap.size → ¬ (fun q : Nat => s.heap.size ≤ q) a := fun a ha => Nat.not_le.mpr ha
  obtain ⟨c0, iS0, hKn0⟩ := u_known (C := "PebbleProofs$Board") (T := am_T0) (N := 9) (n := 9) hts am_w0 (hts (.instantiable "PebbleProofs$Board" 9) (by decide +kernel))
  obtain ⟨c1, iS1, hKn1⟩ := u_known (C := "PebbleProofs$FailingPiles") (T := am_T1) (N := 12) (n := 12) hts am_w1 (hts (.instantiable "PebbleProofs$FailingPiles" 12) (by decide +kernel))
  obtain ⟨c2, iS2, hKn2⟩ := u_known (C := "PebbleProofs$History") (T := am_T2) (N := 3) (n := 3) hts am_w2 (hts (.instantiable "PebbleProofs$History" 3) (by decide +kernel))
  obtain ⟨c3, iS3, hKn3⟩ := u_known (C := "PebbleProofs$Outlook") (T := am_T3) (N := 9) (n := 9) hts am_w3 (hts (.instantiable "PebbleProofs$Outlook" 9) (by decide +kernel))
  obtain ⟨c4, iS4, hKn4⟩ := u_known (C := "PebbleProofs$SetupText") (T := am_T4) (N := 7) (n := 7) hts am_w4 (hts (.instantiable "PebbleProofs$SetupText" 7) (by decide +kernel))
  obtain ⟨c5, iS5, hKn5⟩ := u_known (C := "PebbleProofs") (T := am_T5) (N := 9) (n := 9) hts am_w5 (hts (.instantiable "PebbleProofs" 9) (by decide +kernel))
  obtain ⟨c6, iS6, hKn6⟩ := u_known (C := "PebbleProofsLaw$Why") (T := am_T6) (N := 1) (n := 1) hts am_w6 (hts (.instantiable "PebbleProofsLaw$Why" 1) (by decide +kernel))
  obtain ⟨c7, iS7, hKn7⟩ := u_known (C := "PebbleProofsLaw$Yard") (T := am_T7) (N := 8) (n := 8) hts am_w7 (hts (.instantiable "PebbleProofsLaw$Yard" 8) (by decide +kernel))
  obtain ⟨c8, iS8, hKn8⟩ := u_known (C := "java/lang/String") (T := am_T8) (N := 4) (n := 4) hts am_w8 (hts (.instantiable "java/lang/String" 4) (by decide +kernel))
  obtain ⟨c9, iS9, hKn9⟩ := u_known (C := "java/lang/StringBuilder") (T := am_T9) (N := 4) (n := 4) hts am_w9 (hts (.instantiable "java/lang/StringBuilder" 4) (by decide +kernel))
  obtain ⟨c10, iS10, hKn10⟩ := u_known (C := "java/util/ArrayList") (T := am_T10) (N := 3) (n := 3) hts am_w10 (hts (.instantiable "java/util/ArrayList" 3) (by decide +kernel))
  obtain ⟨c11, iS11, hKn11⟩ := u_known (C := "java/util/ArrayList$Itr") (T := am_T11) (N := 4) (n := 4) hts am_w11 (hts (.instantiable "java/util/ArrayList$Itr" 4) (by decide +kernel))
  obtain ⟨F, hF⟩ := am_tqf hs
  obtain ⟨t0, te0, tT0⟩ := am_dq100 hs
  obtain ⟨t1, te1, tT1⟩ := am_dq101 hs
  obtain ⟨t2, te2, tT2⟩ := am_dq102 hs
  obtain ⟨r0, r0a, r0b⟩ := am_arrk (hts _ (by decide +kernel : Jvm.Cond.arrayClass .int ∈ lw_tbl)) (fun C q => by cases q)
  obtain ⟨r1, r1a, r1b⟩ := am_arrk (hts _ (by decide +kernel : Jvm.Cond.arrayClass .boolean ∈ lw_tbl)) (fun C q => by cases q)
  obtain ⟨r2, r2a, r2b⟩ := am_arrk (hts _ (by decide +kernel : Jvm.Cond.arrayClass .byte ∈ lw_tbl)) (fun C q => by cases q)
  have o3 := hts _ (by decide +kernel : Jvm.Cond.arrayOver (.object "PebbleProofs$Board") ∈ lw_tbl)
  obtain ⟨r3, r3a, r3b⟩ := am_arro o3
  have o4 := hts _ (by decide +kernel : Jvm.Cond.arrayOver (.object "PebbleProofs$FailingPiles") ∈ lw_tbl)
  obtain ⟨r4, r4a, r4b⟩ := am_arro o4
  have o5 := hts _ (by decide +kernel : Jvm.Cond.arrayOver (.object "java/lang/Object") ∈ lw_tbl)
  obtain ⟨r5, r5a, r5b⟩ := am_arro o5
  have o6 := hts _ (by decide +kernel : Jvm.Cond.arrayOver (.array .boolean) ∈ lw_tbl)
  obtain ⟨r6, r6a, r6b⟩ := am_arra o6
  have o7 := hts _ (by decide +kernel : Jvm.Cond.arrayOver (.array .int) ∈ lw_tbl)
  obtain ⟨r7, r7a, r7b⟩ := am_arra o7
  obtain ⟨k, hk⟩ : ∃ k : AK, k = (s.heap.size, (fun i => match i with | 0 => c0 | 1 => c1 | 2 => c2 | 3 => c3 | 4 => c4 | 5 => c5 | 6 => c6 | 7 => c7 | 8 => c8 | 9 => c9 | 10 => c10 | _ => c11, fun i => match i with | 0 => iS0 | 1 => iS1 | 2 => iS2 | 3 => iS3 | 4 => iS4 | 5 => iS5 | 6 => iS6 | 7 => iS7 | 8 => iS8 | 9 => iS9 | 10 => iS10 | _ => iS11), (fun i => match i with | 0 => r0 | 1 => r1 | 2 => r2 | 3 => r3 | 4 => r4 | 5 => r5 | 6 => r6 | _ => r7), (fun i => (F i).1), (fun i => if i < 100 then (F i).2 else if i = 100 then t0 else if i = 101 then t1 else t2)) := ⟨_, rfl⟩
  have hAk : am_A k = fun q : Nat => s.heap.size ≤ q := by rw [hk]; rfl
  have hk1 : ∀ i, k.2.2.2.1 i = (F i).1 := fun i => by rw [hk]
  have hk2 : ∀ i, i < 27 → k.2.2.2.2 i = (F i).2 := fun i hi => by rw [hk]; exact if_pos (show i < 100 by omega)
  have hk3 : k.2.2.2.2 100 = t0 := by rw [hk]; rfl
  have hk4 : k.2.2.2.2 101 = t1 := by rw [hk]; rfl
  have hk5 : k.2.2.2.2 102 = t2 := by rw [hk]; rfl
  have hWd : am_Wd k b (some (L, xs)) s := by
    refine ⟨⟨fun ci q hq => ?_, fun t q hq => ?_⟩, by rw [hk]; exact Nat.le_refl _, ⟨fun i hi => ?_, fun a n f hf => ?_, ?_⟩, fun q hq => ?_, ?_, ?_, ?_, ?_, va_AO.of o3, va_AO.of o4, fun w hw hi => va_Nw.of (am_isn_tab hi) (hts w hw), fun own idx tx hm => ?_, fun i j hi hj hij => ?_, ⟨?_, ?_, ?_⟩, ⟨va_AO.of o5, hts _ (by decide +kernel : Jvm.Cond.arrayOver (.array .boolean) ∈ lw_tbl), hts _ (by decide +kernel : Jvm.Cond.arrayOver (.array .int) ∈ lw_tbl), ?_, ?_⟩, fun n g q => ?_⟩
    · rw [hk]
      have h7 := am_cl_lt hq
      match ci, h7, hq with
      | 0, _, hq => cases hq; exact hKn0
      | 1, _, hq => cases hq; exact hKn1
      | 2, _, hq => cases hq; exact hKn2
      | 3, _, hq => cases hq; exact hKn3
      | 4, _, hq => cases hq; exact hKn4
      | 5, _, hq => cases hq; exact hKn5
      | 6, _, hq => cases hq; exact hKn6
      | 7, _, hq => cases hq; exact hKn7
      | 8, _, hq => cases hq; exact hKn8
      | 9, _, hq => cases hq; exact hKn9
      | 10, _, hq => cases hq; exact hKn10
      | 11, _, hq => cases hq; exact hKn11
    · rw [hk] at hq
      have h5 : t < 8 := (List.getElem?_eq_some_iff.mp hq).1
      match t, h5, hq with
      | 0, _, hq => cases hq; exact ⟨r0a, r0b⟩
      | 1, _, hq => cases hq; exact ⟨r1a, r1b⟩
      | 2, _, hq => cases hq; exact ⟨r2a, r2b⟩
      | 3, _, hq => cases hq; exact ⟨r3a, r3b⟩
      | 4, _, hq => cases hq; exact ⟨r4a, r4b⟩
      | 5, _, hq => cases hq; exact ⟨r5a, r5b⟩
      | 6, _, hq => cases hq; exact ⟨r6a, r6b⟩
      | 7, _, hq => cases hq; exact ⟨r7a, r7b⟩
    · obtain ⟨q1, q2, q3, -, -⟩ := hF i hi
      rw [hAk, hk1, hk2 i hi]
      exact ⟨q1, q2, q3⟩
    · rw [hAk]
      unfold am_oa at hf
      unfold am_oad
      split at hf
      · next hB =>
        cases hf
        have hi : (a - (am_SB + 10)) / 2 < 27 := by
          have h1 := hB.2.1
          have h2 := hB.2.2
          revert h1 h2
          generalize am_SB = sb
          intro h1 h2
          omega
        rw [if_pos hB, hk2 _ hi]
        exact (hF _ hi).2.2.2.1
      · next hB =>
        rw [if_neg hB]
        split at hf
        · next h3 =>
          cases hf
          rw [show 100 + (a - (am_SB + 2)) = 101 by rw [h3]; generalize am_SB = sb; omega, hk4]
          exact tT1
        · next h3 =>
          split at hf
          · next h4 =>
            cases hf
            rw [show 100 + (a - (am_SB + 2)) = 102 by rw [h4]; generalize am_SB = sb; omega, hk5]
            exact tT2
          · cases hf
    · rw [hAk, hk3]
      exact tT0
    · obtain ⟨hq1, hq2, hq3⟩ := am_srw q hq
      obtain ⟨-, -, -, -, h5⟩ := hF _ hq1
      rw [hk1]
      rw [hq2] at h5
      exact vk_R.of (hts _ hq3) h5
    · rw [hAk]
      exact va_Zof (hts _ (by decide +kernel : Jvm.Cond.laysStatic "java/lang/String" "COMPACT_STRINGS" "Z" ∈ lw_tbl)) (hts _ (by decide +kernel : Jvm.Cond.initialized "java/lang/String" ∈ lw_tbl)) (am_evi (hs (.eq (.static "java/lang/String" "COMPACT_STRINGS" "Z") (.int 1)) (am_pm [false, true, true, true, true, true, true, true, true, true, false, false] (by decide +kernel) rfl))) hA
    · rw [hAk]
      exact va_Zqof (hts _ (by decide +kernel : Jvm.Cond.laysStatic "jdk/internal/util/Preconditions" "SIOOBE_FORMATTER" "Ljava/util/function/BiFunction;" ∈ lw_tbl)) (hts _ (by decide +kernel : Jvm.Cond.initialized "jdk/internal/util/Preconditions" ∈ lw_tbl)) (hs _ (am_pm [false, true, true, true, true, true, true, true, true, false, true] (by decide +kernel) rfl)) hA
    · rw [hAk]
      exact vx_Zqof (hts _ (by decide +kernel : Jvm.Cond.laysStatic Bundle.tN "UNASSIGNED_STACK" Bundle.steD ∈ lw_tbl)) (hts _ (by decide +kernel : Jvm.Cond.initialized Bundle.tN ∈ lw_tbl)) (hs _ (am_pm [false, true, true, true, true, true, true, true, false, false, false, false] (by decide +kernel) rfl)) hA
    · rw [hAk]
      exact vx_Zqof (hts _ (by decide +kernel : Jvm.Cond.laysStatic Bundle.tN "SUPPRESSED_SENTINEL" Bundle.listD ∈ lw_tbl)) (hts _ (by decide +kernel : Jvm.Cond.initialized Bundle.tN ∈ lw_tbl)) (hs _ (am_pm [false, true, true, true, true, true, true, false, true, true, true] (by decide +kernel) rfl)) hA
    · exact am_strR (hts _ hm)
    · exact va_Nc.of (hs _ (am_ncs i hi j hj hij))
    · rw [hAk, hk3]
      exact va_Zof (hts _ (by decide +kernel : Jvm.Cond.laysStatic "java/util/ArrayList" "DEFAULTCAPACITY_EMPTY_ELEMENTDATA" "[Ljava/lang/Object;" ∈ lw_tbl)) (hts _ (by decide +kernel : Jvm.Cond.initialized "java/util/ArrayList" ∈ lw_tbl)) te0 hA
    · rw [hAk, hk4]
      exact va_Zof (hts _ (by decide +kernel : Jvm.Cond.laysStatic "java/lang/Integer" "DigitOnes" "[B" ∈ lw_tbl)) (hts _ (by decide +kernel : Jvm.Cond.initialized "java/lang/Integer" ∈ lw_tbl)) te1 hA
    · rw [hAk, hk5]
      exact va_Zof (hts _ (by decide +kernel : Jvm.Cond.laysStatic "java/lang/Integer" "DigitTens" "[B" ∈ lw_tbl)) (hts _ (by decide +kernel : Jvm.Cond.initialized "java/lang/Integer" ∈ lw_tbl)) te2 hA
    · exact va_Fw.of (hts _ (by decide +kernel : Jvm.Cond.declares am_itH ∈ lw_tbl)) (hts _ (by decide +kernel : Jvm.Cond.interfaceMethod "java/util/Iterator" "java/util/Iterator" "hasNext" "()Z" ∈ lw_tbl)) (hts _ (by decide +kernel : Jvm.Cond.publicMethod am_aiH ∈ lw_tbl)) (hts _ (by decide +kernel : Jvm.Cond.unhidden "java/util/ArrayList$Itr" "hasNext" "()Z" ∈ lw_tbl)) (hts _ (by decide +kernel : Jvm.Cond.castable "java/util/ArrayList$Itr" "java/util/Iterator" ∈ lw_tbl))
    · exact va_Fw.of (hts _ (by decide +kernel : Jvm.Cond.declares am_itN ∈ lw_tbl)) (hts _ (by decide +kernel : Jvm.Cond.interfaceMethod "java/util/Iterator" "java/util/Iterator" "next" "()Ljava/lang/Object;" ∈ lw_tbl)) (hts _ (by decide +kernel : Jvm.Cond.publicMethod am_aiN ∈ lw_tbl)) (hts _ (by decide +kernel : Jvm.Cond.unhidden "java/util/ArrayList$Itr" "next" "()Ljava/lang/Object;" ∈ lw_tbl)) (hts _ (by decide +kernel : Jvm.Cond.castable "java/util/ArrayList$Itr" "java/util/Iterator" ∈ lw_tbl))
    · have q2 : (L, xs) = (n, g) := Option.some.inj q
      cases q2
      exact ⟨hX, hbl, by rw [hAk]; exact Nat.not_le.mpr hbl⟩
  obtain ⟨f, h1, kk, nn, hrun, hkk0, hnn0⟩ := hlaw L xs hL
  have hkk : kk ≤ room_1.cells := Nat.le_trans hkk0 (by decide)
  have hnn : nn ≤ room_1.slots := Nat.le_trans hnn0 (by decide)
  have hfl : l.stackTraces = false := by
    rw [Launch.stackTraces, hflags]
    decide +kernel
  have hrun2 : am_exec (am_call (some (L, xs)) 300 f) (⟨"PebbleProofsLaw", meth.name, "([I)Z"⟩, am_M389.2) 300 (some (L, xs)) f (0, am_entry 11 [.ref am_SB], [], [], 0, 0) = some (.inl (some (.int 1)), h1, kk, nn) := by
    rw [← hrun]
    exact am_exec_nm f _
  have C : am_Cx p l room_1 s m #[Value.ref b] meth c k b 11 code "PebbleProofsLaw" meth.name (some (L, xs)) 300 :=
    ⟨hx, hb, hml, hown, fun w hw => hts w (List.mem_filter.mp hw).1, hlocks, rfl, hWd, by decide, by decide, by decide, hfl⟩
  have hP0 : va_P k.2.1 am_cl [] s.heap := fun i q hq => by simp at hq
  have hD0 : va_D (am_A k) [] := ⟨fun i j p q hp => by simp at hp, fun i q hq => by simp at hq⟩
  have hW0 : am_RW (am_X k b) k.2.2.1 [] [] [] := ⟨rfl, rfl, by decide, fun i c hc => by simp at hc⟩
  have hv0 : am_RS (am_X k b) [] [Value.ref am_SB] [Value.ref b] := ⟨am_RV_mkx (Nat.lt_irrefl _) (by unfold am_X; rw [if_pos rfl]), trivial⟩
  have hlen0 : (am_slots [Value.ref am_SB]).length ≤ 11 := by decide
  have hl0 := am_RL_entry (am_X_ok k b) hv0 hlen0
  rw [lg_entry_eq]
  refine sim_exec (M := (⟨"PebbleProofsLaw", meth.name, "([I)Z"⟩, am_M389.2)) (Q := lw_Z below #[Value.ref b] s) (as0 := []) (res := (.inl (some (.int 1)), h1, kk, nn)) C rfl (am_lawB2 meth.name) (am_h0 rfl) (Or.inl rfl) (fun mi Y h => (am_prog_ok mi Y h).1) (fun mi Y vs h2 res1 q1 q2 => sim_all hfl am_prog_ok 299 f mi Y vs h2 res1 q1 q2) hkk hnn ?_ ?_ ?_ f 0 _ [] [] 0 0 hrun2 [] [] _ [] s.heap [] ⟨⟨[], rfl⟩, hl0, trivial, hW0, hP0, hD0, va_S.rf⟩
  · intro pc i ls st h v as2 ws2 ls1 st1 H locs hdg hk1 hv hres Rl
    have hv1 : v = some (.int 1) := by cases hres; rfl
    subst hv1
    obtain ⟨-, -, hst, -, -, -, hS⟩ := Rl
    have hloc : ∀ q ∈ locs, s.heap.size ≤ q.base := fun q hq => by have h9 := hS.2.2 q hq; rw [hAk] at h9; exact h9
    unfold am_ret at hv
    split at hv
    · next x ty =>
      split at hv
      · cases hv
        obtain ⟨r, rfl, hr0⟩ := am_RS_int hst
        obtain rfl := am_RS_nil hr0
        have w0 := lw_ret (p := p) (l := l) (e := e) (s := s) (m := m) (below := below) (meth := meth) (c := c) (b := b) hx hb hr hlocks (pc := pc) (H := H) (ls := ls1) hdg
        have w1 := W.widen hkk hnn w0
        have w2 := W.forget (L := locs) hloc w1
        rw [List.nil_append] at w2
        exact w2
      · cases hv
    all_goals first | (cases hv; done) | (split at hv <;> cases hv)
  · intro E J ls st h cells slots as2 ws2 ls1 st1 H locs _ _ _ _ _ _ hres _
    cases hres
  · intro pc X h ce q9 as2 ws2 ls1 H locs rest1 _ hres
    cases hres
end
