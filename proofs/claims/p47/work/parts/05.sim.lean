/-! ===== the simulation, instruction by instruction: those that touch no cell ===== -/
section AMS
variable {p : Program} {l : Launch} {e : Env} {R : Room} {s : State} {m : MethodId} {args : Array Value} {below : List Frame} {meth : Method} {c : Code} {Q : State → Prop} {k : AK} {X : Nat → Value → Prop} {nL : Nat} {as0 as : List Nat} {ws : va_W} {ls : ALs} {st : List Value} {h : AHp} {ls1 : Array Slot} {st1 : List Value} {H : Heap} {locs : List Loc} {cells slots pc : Nat} {S : ASt} {cc : ByteArray}
def am_Go (p : Program) (l : Launch) (e : Env) (R : Room) (s : State) (m : MethodId) (args : Array Value) (below : List Frame) (meth : Method) (c : Code) (Q : State → Prop) (k : AK) (X : Nat → Value → Prop) (nL : Nat) (as0 : List Nat) (S : ASt) (cells slots : Nat) : Prop :=
  ∀ (as : List Nat) (ws : va_W) (ls1 : Array Slot) (st1 : List Value) (H : Heap) (locs : List Loc), am_Rel k X nL s as0 as ws S.2.1 S.2.2.1 S.2.2.2.1 ls1 st1 H locs → W p l e R s m args below meth c H locs (cells + S.2.2.2.2.1) (slots + S.2.2.2.2.2) Q (F0 m S.1 ls1 st1)
/-- something is pushed -/
theorem sim_push {v : Value} {n : Nat} (hv : ∃ w, am_RV X as v w ∧ (∀ rest, W p l e R s m args below meth c H locs cells slots Q (F0 m (pc + n) ls1 (w :: rest)) → W p l e R s m args below meth c H locs cells slots Q (F0 m pc ls1 rest))) (hs : some (pc + n, ls, v :: st, h, 0, 0) = some S) (Rl : am_Rel k X nL s as0 as ws ls st h ls1 st1 H locs) (go : am_Go p l e R s m args below meth c Q k X nL as0 S cells slots) : W p l e R s m args below meth c H locs cells slots Q (F0 m pc ls1 st1) := by
  cases hs
  obtain ⟨w, h1, h2⟩ := hv
  obtain ⟨t, hl, hst, hw, hP, hD, hS⟩ := Rl
  exact h2 _ (go as ws ls1 (w :: st1) H locs ⟨t, hl, ⟨h1, hst⟩, hw, hP, hD, hS⟩)
theorem sim_ii {f : Int32 → Int32 → Int32} (row : ∀ {x y : Int32} {rest : List Value}, W p l e R s m args below meth c H locs cells slots Q (F0 m (pc + 1) ls1 (.int (f x y) :: rest)) → W p l e R s m args below meth c H locs cells slots Q (F0 m pc ls1 (.int y :: .int x :: rest))) (hs : am_ii f pc ls st h = some S) (Rl : am_Rel k X nL s as0 as ws ls st h ls1 st1 H locs) (go : am_Go p l e R s m args below meth c Q k X nL as0 S cells slots) : W p l e R s m args below meth c H locs cells slots Q (F0 m pc ls1 st1) := by
  unfold am_ii at hs
  split at hs
  · cases hs
    obtain ⟨t, hl, hst, hw, hP, hD, hS⟩ := Rl
    obtain ⟨r1, rfl, h1⟩ := am_RS_int hst
    obtain ⟨r2, rfl, h2⟩ := am_RS_int h1
    exact row (go as ws ls1 _ H locs ⟨t, hl, ⟨rfl, h2⟩, hw, hP, hD, hS⟩)
  · cases hs
theorem sim_dv {f : Int32 → Int32 → Int32} (row : ∀ {x y : Int32} {rest : List Value}, ¬ y = 0 → W p l e R s m args below meth c H locs cells slots Q (F0 m (pc + 1) ls1 (.int (f x y) :: rest)) → W p l e R s m args below meth c H locs cells slots Q (F0 m pc ls1 (.int y :: .int x :: rest))) (hs : am_dv f pc ls st h = some S) (Rl : am_Rel k X nL s as0 as ws ls st h ls1 st1 H locs) (go : am_Go p l e R s m args below meth c Q k X nL as0 S cells slots) : W p l e R s m args below meth c H locs cells slots Q (F0 m pc ls1 st1) := by
  unfold am_dv at hs
  split at hs
  · split at hs
    · cases hs
    · next hy =>
      cases hs
      obtain ⟨t, hl, hst, hw, hP, hD, hS⟩ := Rl
      obtain ⟨r1, rfl, h1⟩ := am_RS_int hst
      obtain ⟨r2, rfl, h2⟩ := am_RS_int h1
      exact row hy (go as ws ls1 _ H locs ⟨t, hl, ⟨rfl, h2⟩, hw, hP, hD, hS⟩)
  · cases hs
theorem sim_ll {f : Int64 → Int64 → Int64} (row : ∀ {x y : Int64} {rest : List Value}, W p l e R s m args below meth c H locs cells slots Q (F0 m (pc + 1) ls1 (.long (f x y) :: rest)) → W p l e R s m args below meth c H locs cells slots Q (F0 m pc ls1 (.long y :: .long x :: rest))) (hs : am_ll f pc ls st h = some S) (Rl : am_Rel k X nL s as0 as ws ls st h ls1 st1 H locs) (go : am_Go p l e R s m args below meth c Q k X nL as0 S cells slots) : W p l e R s m args below meth c H locs cells slots Q (F0 m pc ls1 st1) := by
  unfold am_ll at hs
  split at hs
  · cases hs
    obtain ⟨t, hl, hst, hw, hP, hD, hS⟩ := Rl
    obtain ⟨r1, rfl, h1⟩ := am_RS_long hst
    obtain ⟨r2, rfl, h2⟩ := am_RS_long h1
    exact row (go as ws ls1 _ H locs ⟨t, hl, ⟨rfl, h2⟩, hw, hP, hD, hS⟩)
  · cases hs
theorem sim_li {f : Int64 → Int32 → Int64} (row : ∀ {x : Int64} {y : Int32} {rest : List Value}, W p l e R s m args below meth c H locs cells slots Q (F0 m (pc + 1) ls1 (.long (f x y) :: rest)) → W p l e R s m args below meth c H locs cells slots Q (F0 m pc ls1 (.int y :: .long x :: rest))) (hs : am_li f pc ls st h = some S) (Rl : am_Rel k X nL s as0 as ws ls st h ls1 st1 H locs) (go : am_Go p l e R s m args below meth c Q k X nL as0 S cells slots) : W p l e R s m args below meth c H locs cells slots Q (F0 m pc ls1 st1) := by
  unfold am_li at hs
  split at hs
  · cases hs
    obtain ⟨t, hl, hst, hw, hP, hD, hS⟩ := Rl
    obtain ⟨r1, rfl, h1⟩ := am_RS_int hst
    obtain ⟨r2, rfl, h2⟩ := am_RS_long h1
    exact row (go as ws ls1 _ H locs ⟨t, hl, ⟨rfl, h2⟩, hw, hP, hD, hS⟩)
  · cases hs
theorem sim_i1 {f : Int32 → Value} (hf : ∀ x as, am_RV X as (f x) (f x)) (row : ∀ {x : Int32} {rest : List Value}, W p l e R s m args below meth c H locs cells slots Q (F0 m (pc + 1) ls1 (f x :: rest)) → W p l e R s m args below meth c H locs cells slots Q (F0 m pc ls1 (.int x :: rest))) (hs : am_i1 f pc ls st h = some S) (Rl : am_Rel k X nL s as0 as ws ls st h ls1 st1 H locs) (go : am_Go p l e R s m args below meth c Q k X nL as0 S cells slots) : W p l e R s m args below meth c H locs cells slots Q (F0 m pc ls1 st1) := by
  unfold am_i1 at hs
  split at hs
  · cases hs
    obtain ⟨t, hl, hst, hw, hP, hD, hS⟩ := Rl
    obtain ⟨r1, rfl, h1⟩ := am_RS_int hst
    exact row (go as ws ls1 _ H locs ⟨t, hl, ⟨hf _ _, h1⟩, hw, hP, hD, hS⟩)
  · cases hs
theorem sim_l2i (row : ∀ {x : Int64} {rest : List Value}, W p l e R s m args below meth c H locs cells slots Q (F0 m (pc + 1) ls1 (.int x.toInt32 :: rest)) → W p l e R s m args below meth c H locs cells slots Q (F0 m pc ls1 (.long x :: rest))) (hs : am_l2i pc ls st h = some S) (Rl : am_Rel k X nL s as0 as ws ls st h ls1 st1 H locs) (go : am_Go p l e R s m args below meth c Q k X nL as0 S cells slots) : W p l e R s m args below meth c H locs cells slots Q (F0 m pc ls1 st1) := by
  unfold am_l2i at hs
  split at hs
  · cases hs
    obtain ⟨t, hl, hst, hw, hP, hD, hS⟩ := Rl
    obtain ⟨r1, rfl, h1⟩ := am_RS_long hst
    exact row (go as ws ls1 _ H locs ⟨t, hl, ⟨rfl, h1⟩, hw, hP, hD, hS⟩)
  · cases hs
theorem sim_lcmp (row : ∀ {x y : Int64} {rest : List Value}, W p l e R s m args below meth c H locs cells slots Q (F0 m (pc + 1) ls1 (.int (lg_cmp x y) :: rest)) → W p l e R s m args below meth c H locs cells slots Q (F0 m pc ls1 (.long y :: .long x :: rest))) (hs : am_lcmp pc ls st h = some S) (Rl : am_Rel k X nL s as0 as ws ls st h ls1 st1 H locs) (go : am_Go p l e R s m args below meth c Q k X nL as0 S cells slots) : W p l e R s m args below meth c H locs cells slots Q (F0 m pc ls1 st1) := by
  unfold am_lcmp at hs
  split at hs
  · cases hs
    obtain ⟨t, hl, hst, hw, hP, hD, hS⟩ := Rl
    obtain ⟨r1, rfl, h1⟩ := am_RS_long hst
    obtain ⟨r2, rfl, h2⟩ := am_RS_long h1
    exact row (go as ws ls1 _ H locs ⟨t, hl, ⟨rfl, h2⟩, hw, hP, hD, hS⟩)
  · cases hs
theorem sim_dup (hX : am_Xok X) (row : ∀ {v : Value} {rest : List Value}, v.category = 1 → W p l e R s m args below meth c H locs cells slots Q (F0 m (pc + 1) ls1 (v :: v :: rest)) → W p l e R s m args below meth c H locs cells slots Q (F0 m pc ls1 (v :: rest))) (hs : am_dup pc ls st h = some S) (Rl : am_Rel k X nL s as0 as ws ls st h ls1 st1 H locs) (go : am_Go p l e R s m args below meth c Q k X nL as0 S cells slots) : W p l e R s m args below meth c H locs cells slots Q (F0 m pc ls1 st1) := by
  unfold am_dup at hs
  split at hs
  · split at hs
    · next hv =>
      cases hs
      obtain ⟨t, hl, hst, hw, hP, hD, hS⟩ := Rl
      obtain ⟨w, r1, rfl, h0, h1⟩ := am_RS_cons hst
      exact row (by rw [am_RV_cat hX h0]; exact hv) (go as ws ls1 _ H locs ⟨t, hl, ⟨h0, h0, h1⟩, hw, hP, hD, hS⟩)
    · cases hs
  · cases hs
theorem sim_dup2 (hX : am_Xok X) (row : ∀ {v u : Value} {rest : List Value}, v.category = 1 → u.category = 1 → W p l e R s m args below meth c H locs cells slots Q (F0 m (pc + 1) ls1 (v :: u :: v :: u :: rest)) → W p l e R s m args below meth c H locs cells slots Q (F0 m pc ls1 (v :: u :: rest))) (hs : am_dup2 pc ls st h = some S) (Rl : am_Rel k X nL s as0 as ws ls st h ls1 st1 H locs) (go : am_Go p l e R s m args below meth c Q k X nL as0 S cells slots) : W p l e R s m args below meth c H locs cells slots Q (F0 m pc ls1 st1) := by
  unfold am_dup2 at hs
  split at hs
  · split at hs
    · next hv =>
      cases hs
      obtain ⟨t, hl, hst, hw, hP, hD, hS⟩ := Rl
      obtain ⟨w, r1, rfl, h0, h1⟩ := am_RS_cons hst
      obtain ⟨w2, r2, rfl, h3, h4⟩ := am_RS_cons h1
      exact row (by rw [am_RV_cat hX h0]; exact hv.1) (by rw [am_RV_cat hX h3]; exact hv.2) (go as ws ls1 _ H locs ⟨t, hl, ⟨h0, h3, h0, h3, h4⟩, hw, hP, hD, hS⟩)
    · cases hs
  · cases hs
theorem sim_dup1 (hX : am_Xok X) (row : ∀ {v u : Value} {rest : List Value}, v.category = 1 → u.category = 1 → W p l e R s m args below meth c H locs cells slots Q (F0 m (pc + 1) ls1 (v :: u :: v :: rest)) → W p l e R s m args below meth c H locs cells slots Q (F0 m pc ls1 (v :: u :: rest))) (hs : am_dup1 pc ls st h = some S) (Rl : am_Rel k X nL s as0 as ws ls st h ls1 st1 H locs) (go : am_Go p l e R s m args below meth c Q k X nL as0 S cells slots) : W p l e R s m args below meth c H locs cells slots Q (F0 m pc ls1 st1) := by
  unfold am_dup1 at hs
  split at hs
  · split at hs
    · next hv =>
      cases hs
      obtain ⟨t, hl, hst, hw, hP, hD, hS⟩ := Rl
      obtain ⟨w, r1, rfl, h0, h1⟩ := am_RS_cons hst
      obtain ⟨w2, r2, rfl, h3, h4⟩ := am_RS_cons h1
      exact row (by rw [am_RV_cat hX h0]; exact hv.1) (by rw [am_RV_cat hX h3]; exact hv.2) (go as ws ls1 _ H locs ⟨t, hl, ⟨h0, h3, h0, h4⟩, hw, hP, hD, hS⟩)
    · cases hs
  · cases hs
theorem sim_pop (hX : am_Xok X) (row : ∀ {v : Value} {rest : List Value}, v.category = 1 → W p l e R s m args below meth c H locs cells slots Q (F0 m (pc + 1) ls1 rest) → W p l e R s m args below meth c H locs cells slots Q (F0 m pc ls1 (v :: rest))) (hs : am_pop pc ls st h = some S) (Rl : am_Rel k X nL s as0 as ws ls st h ls1 st1 H locs) (go : am_Go p l e R s m args below meth c Q k X nL as0 S cells slots) : W p l e R s m args below meth c H locs cells slots Q (F0 m pc ls1 st1) := by
  unfold am_pop at hs
  split at hs
  · split at hs
    · next hv =>
      cases hs
      obtain ⟨t, hl, hst, hw, hP, hD, hS⟩ := Rl
      obtain ⟨w, r1, rfl, h0, h1⟩ := am_RS_cons hst
      exact row (by rw [am_RV_cat hX h0]; exact hv) (go as ws ls1 _ H locs ⟨t, hl, h1, hw, hP, hD, hS⟩)
    · cases hs
  · cases hs
theorem sim_ldi {i n : Nat} (row : ∀ {x : Int32} {rest : List Value}, ls1[i]? = some (.val (.int x)) → W p l e R s m args below meth c H locs cells slots Q (F0 m (pc + n) ls1 (.int x :: rest)) → W p l e R s m args below meth c H locs cells slots Q (F0 m pc ls1 rest)) (hs : am_ldi i n pc ls st h = some S) (Rl : am_Rel k X nL s as0 as ws ls st h ls1 st1 H locs) (go : am_Go p l e R s m args below meth c Q k X nL as0 S cells slots) : W p l e R s m args below meth c H locs cells slots Q (F0 m pc ls1 st1) := by
  unfold am_ldi at hs
  split at hs
  · next hv =>
    cases hs
    obtain ⟨t, hl, hst, hw, hP, hD, hS⟩ := Rl
    obtain ⟨w, rfl, h2⟩ := am_RL_get hl hv
    exact row h2 (go as ws ls1 _ H locs ⟨t, hl, ⟨rfl, hst⟩, hw, hP, hD, hS⟩)
  · cases hs
theorem sim_ldl {i n : Nat} (row : ∀ {x : Int64} {rest : List Value}, ls1[i]? = some (.val (.long x)) → W p l e R s m args below meth c H locs cells slots Q (F0 m (pc + n) ls1 (.long x :: rest)) → W p l e R s m args below meth c H locs cells slots Q (F0 m pc ls1 rest)) (hs : am_ldl i n pc ls st h = some S) (Rl : am_Rel k X nL s as0 as ws ls st h ls1 st1 H locs) (go : am_Go p l e R s m args below meth c Q k X nL as0 S cells slots) : W p l e R s m args below meth c H locs cells slots Q (F0 m pc ls1 st1) := by
  unfold am_ldl at hs
  split at hs
  · next hv =>
    cases hs
    obtain ⟨t, hl, hst, hw, hP, hD, hS⟩ := Rl
    obtain ⟨w, rfl, h2⟩ := am_RL_get hl hv
    exact row h2 (go as ws ls1 _ H locs ⟨t, hl, ⟨rfl, hst⟩, hw, hP, hD, hS⟩)
  · cases hs
/-- outside, but for am_SB + 1, there are cells -/
def am_Xref (X : Nat → Value → Prop) : Prop := ∀ i w, ¬ i = am_SB + 1 → X i w → ∃ a, w = .ref a
theorem am_X_ref (k : AK) (b : Nat) : am_Xref (am_X k b) := by
  intro i w hi h
  unfold am_X at h
  by_cases q0 : i = am_SB
  · rw [if_pos q0] at h; exact ⟨_, h⟩
  · rw [if_neg q0, if_neg hi] at h
    by_cases q2 : i < am_SB + 5
    · rw [if_pos q2] at h; exact ⟨_, h⟩
    · rw [if_neg q2] at h
      by_cases q1 : (i - (am_SB + 10)) % 2 = 0
      · rw [if_pos q1] at h; exact ⟨_, h⟩
      · rw [if_neg q1] at h; exact ⟨_, h⟩
/-- one thing outside is one cell -/
def am_Xfun (X : Nat → Value → Prop) : Prop := ∀ i w u, ¬ i = am_SB + 1 → X i w → X i u → w = u
theorem am_X_fun (k : AK) (b : Nat) : am_Xfun (am_X k b) := by
  intro i w u hi h g
  unfold am_X at h g
  by_cases q0 : i = am_SB
  · rw [if_pos q0] at h g; rw [h, g]
  · rw [if_neg q0, if_neg hi] at h g
    by_cases q2 : i < am_SB + 5
    · rw [if_pos q2] at h g; rw [h, g]
    · rw [if_neg q2] at h g
      by_cases q1 : (i - (am_SB + 10)) % 2 = 0
      · rw [if_pos q1] at h g; rw [h, g]
      · rw [if_neg q1] at h g; rw [h, g]
theorem am_RV_same {X : Nat → Value → Prop} (hX : am_Xfun X) {as : List Nat} {i : Nat} {w u : Value} (hi : ¬ i = am_SB + 1) (h : am_RV X as (.ref i) w) (g : am_RV X as (.ref i) u) : w = u := by
  by_cases q : i < am_SB
  · obtain ⟨a, h1, rfl⟩ := am_RV_ref h q
    obtain ⟨a2, h2, rfl⟩ := am_RV_ref g q
    rw [h1] at h2
    cases h2
    rfl
  · exact hX i w u hi (am_RV_ext h q) (am_RV_ext g q)
theorem am_RV_isref (hX : am_Xref X) {as : List Nat} {i : Nat} {w : Value} (hi : ¬ i = am_SB + 1) (h : am_RV X as (.ref i) w) : ∃ a, w = .ref a := by
  by_cases q : i < am_SB
  · obtain ⟨a, -, e⟩ := am_RV_ref h q
    exact ⟨a, e⟩
  · exact hX i w hi (am_RV_ext h q)
theorem am_RV_rn (hX : am_Xok X) {as : List Nat} {i : Nat} {w : Value} (h : am_RV X as (.ref i) w) : w = .null ∨ ∃ a, w = .ref a := by
  by_cases q : i < am_SB
  · obtain ⟨a, -, e⟩ := am_RV_ref h q
    exact Or.inr ⟨a, e⟩
  · exact hX i w (am_RV_ext h q)
theorem sim_lda (hX : am_Xok X) {i n : Nat} (row : ∀ {x : Nat} {rest : List Value}, ls1[i]? = some (.val (.ref x)) → W p l e R s m args below meth c H locs cells slots Q (F0 m (pc + n) ls1 (.ref x :: rest)) → W p l e R s m args below meth c H locs cells slots Q (F0 m pc ls1 rest))
    (rowN : ∀ {rest : List Value}, ls1[i]? = some (.val .null) → W p l e R s m args below meth c H locs cells slots Q (F0 m (pc + n) ls1 (.null :: rest)) → W p l e R s m args below meth c H locs cells slots Q (F0 m pc ls1 rest)) (hs : am_lda i n pc ls st h = some S) (Rl : am_Rel k X nL s as0 as ws ls st h ls1 st1 H locs) (go : am_Go p l e R s m args below meth c Q k X nL as0 S cells slots) : W p l e R s m args below meth c H locs cells slots Q (F0 m pc ls1 st1) := by
  unfold am_lda at hs
  split at hs
  · next hv =>
    cases hs
    obtain ⟨t, hl, hst, hw, hP, hD, hS⟩ := Rl
    obtain ⟨w, h1, h2⟩ := am_RL_get hl hv
    rcases am_RV_rn hX h1 with rfl | ⟨a, rfl⟩
    · exact rowN h2 (go as ws ls1 _ H locs ⟨t, hl, ⟨h1, hst⟩, hw, hP, hD, hS⟩)
    · exact row h2 (go as ws ls1 _ H locs ⟨t, hl, ⟨h1, hst⟩, hw, hP, hD, hS⟩)
  · next hv =>
    cases hs
    obtain ⟨t, hl, hst, hw, hP, hD, hS⟩ := Rl
    obtain ⟨w, rfl, h2⟩ := am_RL_get hl hv
    exact rowN h2 (go as ws ls1 _ H locs ⟨t, hl, ⟨rfl, hst⟩, hw, hP, hD, hS⟩)
  · cases hs
theorem sim_sti (hX : am_Xok X) {i n : Nat} (row : ∀ {x : Int32} {rest : List Value} {lv lv' : List (Nat × Value)}, lv_has ls1 nL lv → i < nL → (i, Value.int x) :: lv.filter (fun q => !(q.1 == i) && !(q.1 + 1 == i && q.2.category == 2)) = lv' → (∀ ls2 : Array Slot, lv_has ls2 nL lv' → W p l e R s m args below meth c H locs cells slots Q (F0 m (pc + n) ls2 rest)) → W p l e R s m args below meth c H locs cells slots Q (F0 m pc ls1 (.int x :: rest))) (hs : am_sti i n pc ls st h = some S) (Rl : am_Rel k X nL s as0 as ws ls st h ls1 st1 H locs) (go : am_Go p l e R s m args below meth c Q k X nL as0 S cells slots) : W p l e R s m args below meth c H locs cells slots Q (F0 m pc ls1 st1) := by
  unfold am_sti at hs
  split at hs
  · split at hs
    · next hi =>
      cases hs
      obtain ⟨t, hl, hst, hw, hP, hD, hS⟩ := Rl
      obtain ⟨r1, rfl, h1⟩ := am_RS_int hst
      exact row (am_full_has hl.1 hl.2.2.1) (by rw [← hl.2.1]; exact hi) rfl (fun ls2 h2 => go as ws ls2 _ H locs ⟨t, am_RL_set1 hX hl hi rfl h2, h1, hw, hP, hD, hS⟩)
    · cases hs
  · cases hs
theorem sim_stl (hX : am_Xok X) {i n : Nat} (row : ∀ {x : Int64} {rest : List Value} {lv lv' : List (Nat × Value)}, lv_has ls1 nL lv → i + 1 < nL → (i, Value.long x) :: lv.filter (fun q => !(q.1 == i) && (!(q.1 == i + 1) && !(q.1 + 1 == i && q.2.category == 2))) = lv' → (∀ ls2 : Array Slot, lv_has ls2 nL lv' → W p l e R s m args below meth c H locs cells slots Q (F0 m (pc + n) ls2 rest)) → W p l e R s m args below meth c H locs cells slots Q (F0 m pc ls1 (.long x :: rest))) (hs : am_stl i n pc ls st h = some S) (Rl : am_Rel k X nL s as0 as ws ls st h ls1 st1 H locs) (go : am_Go p l e R s m args below meth c Q k X nL as0 S cells slots) : W p l e R s m args below meth c H locs cells slots Q (F0 m pc ls1 st1) := by
  unfold am_stl at hs
  split at hs
  · split at hs
    · next hi =>
      cases hs
      obtain ⟨t, hl, hst, hw, hP, hD, hS⟩ := Rl
      obtain ⟨r1, rfl, h1⟩ := am_RS_long hst
      exact row (am_full_has hl.1 hl.2.2.1) (by rw [← hl.2.1]; exact hi) rfl (fun ls2 h2 => go as ws ls2 _ H locs ⟨t, am_RL_set2 hX hl hi rfl h2, h1, hw, hP, hD, hS⟩)
    · cases hs
  · cases hs
theorem sim_sta (hX : am_Xok X) (hX2 : am_Xref X) {i n : Nat} (row : ∀ {x : Nat} {rest : List Value} {lv lv' : List (Nat × Value)}, lv_has ls1 nL lv → i < nL → (i, Value.ref x) :: lv.filter (fun q => !(q.1 == i) && !(q.1 + 1 == i && q.2.category == 2)) = lv' → (∀ ls2 : Array Slot, lv_has ls2 nL lv' → W p l e R s m args below meth c H locs cells slots Q (F0 m (pc + n) ls2 rest)) → W p l e R s m args below meth c H locs cells slots Q (F0 m pc ls1 (.ref x :: rest)))
    (rowN : ∀ {rest : List Value} {lv lv' : List (Nat × Value)}, lv_has ls1 nL lv → i < nL → (i, Value.null) :: lv.filter (fun q => !(q.1 == i) && !(q.1 + 1 == i && q.2.category == 2)) = lv' → (∀ ls2 : Array Slot, lv_has ls2 nL lv' → W p l e R s m args below meth c H locs cells slots Q (F0 m (pc + n) ls2 rest)) → W p l e R s m args below meth c H locs cells slots Q (F0 m pc ls1 (.null :: rest))) (hs : am_sta i n pc ls st h = some S) (Rl : am_Rel k X nL s as0 as ws ls st h ls1 st1 H locs) (go : am_Go p l e R s m args below meth c Q k X nL as0 S cells slots) : W p l e R s m args below meth c H locs cells slots Q (F0 m pc ls1 st1) := by
  unfold am_sta at hs
  split at hs
  · split at hs
    · next hi =>
      cases hs
      obtain ⟨t, hl, hst, hw, hP, hD, hS⟩ := Rl
      obtain ⟨w, r1, rfl, h0, h1⟩ := am_RS_cons hst
      rcases am_RV_rn hX h0 with rfl | ⟨a, rfl⟩
      · exact rowN (am_full_has hl.1 hl.2.2.1) (by rw [← hl.2.1]; exact hi) rfl (fun ls2 h2 => go as ws ls2 _ H locs ⟨t, am_RL_set1 hX hl hi h0 h2, h1, hw, hP, hD, hS⟩)
      · exact row (am_full_has hl.1 hl.2.2.1) (by rw [← hl.2.1]; exact hi) rfl (fun ls2 h2 => go as ws ls2 _ H locs ⟨t, am_RL_set1 hX hl hi h0 h2, h1, hw, hP, hD, hS⟩)
    · cases hs
  · split at hs
    · next hi =>
      cases hs
      obtain ⟨t, hl, hst, hw, hP, hD, hS⟩ := Rl
      obtain ⟨w, r1, rfl, rfl, h1⟩ := am_RS_cons hst
      exact rowN (am_full_has hl.1 hl.2.2.1) (by rw [← hl.2.1]; exact hi) rfl (fun ls2 h2 => go as ws ls2 _ H locs ⟨t, am_RL_set1 hX hl hi rfl h2, h1, hw, hP, hD, hS⟩)
    · cases hs
  · cases hs
theorem sim_inc (hX : am_Xok X) (hx : p.tables.exec = Jvm.exec) (hb : c.code = cc) {i : Nat} {n : Int} (hdg : decode cc pc = .ok (.iinc i n, 3)) (hs : am_inc i n pc ls st h = some S) (Rl : am_Rel k X nL s as0 as ws ls st h ls1 st1 H locs) (go : am_Go p l e R s m args below meth c Q k X nL as0 S cells slots) : W p l e R s m args below meth c H locs cells slots Q (F0 m pc ls1 st1) := by
  unfold am_inc at hs
  split at hs
  · next x hv =>
    cases hs
    obtain ⟨t, hl, hst, hw, hP, hD, hS⟩ := Rl
    obtain ⟨w, rfl, h2⟩ := am_RL_get hl hv
    obtain ⟨j, hj⟩ := List.getElem?_of_mem (am_full_mem h2)
    have hi : i < ls.length := (List.getElem?_eq_some_iff.mp hv).1
    exact lv_iinc hx hb hdg (am_full_has hl.1 hl.2.2.1) hj rfl (by rw [← hl.2.1]; exact hi) rfl (fun ls2 h3 => go as ws ls2 _ H locs ⟨t, am_RL_set1 hX hl hi rfl h3, hst, hw, hP, hD, hS⟩)
  · cases hs
theorem sim_goto (hx : p.tables.exec = Jvm.exec) (hb : c.code = cc) {off : Int} {r1 : Nat} (hdg : decode cc pc = .ok (.goto off, 3)) (ht : (pc : Int) + off = (r1 : Int)) (hs : some (r1, ls, st, h, 0, 0) = some S) (Rl : am_Rel k X nL s as0 as ws ls st h ls1 st1 H locs) (go : am_Go p l e R s m args below meth c Q k X nL as0 S cells slots) : W p l e R s m args below meth c H locs cells slots Q (F0 m pc ls1 st1) := by
  cases hs
  exact lv_goto hx hb hdg ht (go as ws ls1 st1 H locs Rl)
theorem sim_z (hx : p.tables.exec = Jvm.exec) (hb : c.code = cc) {cd : ClassFile.Cond} {off : Int} {r1 : Nat} (hdg : decode cc pc = .ok (.ifCond cd off, 3)) (ht : (pc : Int) + off = (r1 : Int)) (hs : am_z cd pc r1 ls st h = some S) (Rl : am_Rel k X nL s as0 as ws ls st h ls1 st1 H locs) (go : am_Go p l e R s m args below meth c Q k X nL as0 S cells slots) : W p l e R s m args below meth c H locs cells slots Q (F0 m pc ls1 st1) := by
  unfold am_z at hs
  split at hs
  · next x r =>
    unfold am_if at hs
    cases hs
    obtain ⟨t, hl, hst, hw, hP, hD, hS⟩ := Rl
    obtain ⟨r1', rfl, h1⟩ := am_RS_int hst
    have g := go as ws ls1 r1' H locs ⟨t, hl, h1, hw, hP, hD, hS⟩
    dsimp only at g
    cases cd <;> simp only [am_cmp, decide_eq_true_eq] at g
    · exact lv_if_eq hx hb hdg ht (fun q => by rw [if_pos q] at g; exact g) (fun q => by rw [if_neg q] at g; exact g)
    · exact lv_if_ne hx hb hdg ht (fun q => by rw [if_pos q] at g; exact g) (fun q => by rw [if_neg (fun z => z q)] at g; exact g)
    · exact lv_if_lt hx hb hdg ht (fun q => by rw [if_pos q] at g; exact g) (fun q => by rw [if_neg q] at g; exact g)
    · exact lv_if_ge hx hb hdg ht (fun q => by rw [if_pos q] at g; exact g) (fun q => by rw [if_neg q] at g; exact g)
    · exact lv_if_gt hx hb hdg ht (fun q => by rw [if_pos q] at g; exact g) (fun q => by rw [if_neg q] at g; exact g)
    · exact lv_if_le hx hb hdg ht (fun q => by rw [if_pos q] at g; exact g) (fun q => by rw [if_neg q] at g; exact g)
  · cases hs
theorem sim_c2 (hx : p.tables.exec = Jvm.exec) (hb : c.code = cc) {cd : ClassFile.Cond} {off : Int} {r1 : Nat} (hdg : decode cc pc = .ok (.if_icmp cd off, 3)) (ht : (pc : Int) + off = (r1 : Int)) (hs : am_c2 cd pc r1 ls st h = some S) (Rl : am_Rel k X nL s as0 as ws ls st h ls1 st1 H locs) (go : am_Go p l e R s m args below meth c Q k X nL as0 S cells slots) : W p l e R s m args below meth c H locs cells slots Q (F0 m pc ls1 st1) := by
  unfold am_c2 at hs
  split at hs
  · next x r =>
    unfold am_if at hs
    cases hs
    obtain ⟨t, hl, hst, hw, hP, hD, hS⟩ := Rl
    obtain ⟨r1', rfl, h1⟩ := am_RS_int hst
    obtain ⟨r2', rfl, h2⟩ := am_RS_int h1
    have g := go as ws ls1 r2' H locs ⟨t, hl, h2, hw, hP, hD, hS⟩
    dsimp only at g
    cases cd <;> simp only [am_cmp, decide_eq_true_eq] at g
    · exact lv_icmp_eq hx hb hdg ht (fun q => by rw [if_pos q] at g; exact g) (fun q => by rw [if_neg q] at g; exact g)
    · exact lv_icmp_ne hx hb hdg ht (fun q => by rw [if_pos q] at g; exact g) (fun q => by rw [if_neg (fun z => z q)] at g; exact g)
    · exact lv_icmp_lt hx hb hdg ht (fun q => by rw [if_pos q] at g; exact g) (fun q => by rw [if_neg q] at g; exact g)
    · exact lv_icmp_ge hx hb hdg ht (fun q => by rw [if_pos q] at g; exact g) (fun q => by rw [if_neg q] at g; exact g)
    · exact lv_icmp_gt hx hb hdg ht (fun q => by rw [if_pos q] at g; exact g) (fun q => by rw [if_neg q] at g; exact g)
    · exact lv_icmp_le hx hb hdg ht (fun q => by rw [if_pos q] at g; exact g) (fun q => by rw [if_neg q] at g; exact g)
  · cases hs
theorem sim_nul (hXr : am_Xref X) {tn tr : Nat} (rowN : ∀ {rest : List Value}, W p l e R s m args below meth c H locs cells slots Q (F0 m tn ls1 rest) → W p l e R s m args below meth c H locs cells slots Q (F0 m pc ls1 (.null :: rest)))
    (row : ∀ {x : Nat} {rest : List Value}, W p l e R s m args below meth c H locs cells slots Q (F0 m tr ls1 rest) → W p l e R s m args below meth c H locs cells slots Q (F0 m pc ls1 (.ref x :: rest))) (hs : am_nul tn tr ls st h = some S) (Rl : am_Rel k X nL s as0 as ws ls st h ls1 st1 H locs) (go : am_Go p l e R s m args below meth c Q k X nL as0 S cells slots) : W p l e R s m args below meth c H locs cells slots Q (F0 m pc ls1 st1) := by
  unfold am_nul at hs
  split at hs
  · cases hs
    obtain ⟨t, hl, hst, hw, hP, hD, hS⟩ := Rl
    obtain ⟨w, r1, rfl, rfl, h1⟩ := am_RS_cons hst
    exact rowN (go as ws ls1 _ H locs ⟨t, hl, h1, hw, hP, hD, hS⟩)
  · split at hs
    · next hi =>
      cases hs
      obtain ⟨t, hl, hst, hw, hP, hD, hS⟩ := Rl
      obtain ⟨w, r1, rfl, h0, h1⟩ := am_RS_cons hst
      obtain ⟨a, rfl⟩ := am_RV_isref hXr hi h0
      exact row (go as ws ls1 _ H locs ⟨t, hl, h1, hw, hP, hD, hS⟩)
    · cases hs
  · cases hs
theorem sim_acq (hXr : am_Xref X) (hXf : am_Xfun X) (hx : p.tables.exec = Jvm.exec) (hb : c.code = cc) {off : Int} {r1 : Nat} (hdg : decode cc pc = .ok (.if_acmp .eq off, 3)) (ht : (pc : Int) + off = (r1 : Int)) (hs : am_acq pc r1 ls st h = some S) (Rl : am_Rel k X nL s as0 as ws ls st h ls1 st1 H locs) (go : am_Go p l e R s m args below meth c Q k X nL as0 S cells slots) : W p l e R s m args below meth c H locs cells slots Q (F0 m pc ls1 st1) := by
  unfold am_acq at hs
  split at hs
  · split at hs
    · next hab =>
      obtain ⟨rfl, hne⟩ := hab
      cases hs
      obtain ⟨t, hl, hst, hw, hP, hD, hS⟩ := Rl
      obtain ⟨w, r1', rfl, h0, h1⟩ := am_RS_cons hst
      obtain ⟨w2, r2', rfl, h3, h4⟩ := am_RS_cons h1
      obtain rfl := am_RV_same hXf hne h0 h3
      obtain ⟨a, rfl⟩ := am_RV_isref hXr hne h0
      exact lv_acmp_eq (rx := some a) (ry := some a) hx hb hdg ht (fun _ => go as ws ls1 _ H locs ⟨t, hl, h4, hw, hP, hD, hS⟩) (fun q => absurd rfl q)
    · cases hs
  · cases hs
theorem sim_tsw (hx : p.tables.exec = Jvm.exec) (hb : c.code = cc) {dflt lo hi : Int} {offs : Array Int} {len : Nat} (hdg : decode cc pc = .ok (.tableswitch dflt lo hi offs, len)) (hs : am_tsw pc dflt lo hi offs ls st h = some S) (Rl : am_Rel k X nL s as0 as ws ls st h ls1 st1 H locs) (go : am_Go p l e R s m args below meth c Q k X nL as0 S cells slots) : W p l e R s m args below meth c H locs cells slots Q (F0 m pc ls1 st1) := by
  unfold am_tsw at hs
  split at hs
  · obtain ⟨t, hl, hst, hw, hP, hD, hS⟩ := Rl
    obtain ⟨r1, rfl, h1⟩ := am_RS_int hst
    split at hs
    · next ho =>
      split at hs
      · next hz =>
        cases hs
        exact lv_tableOut hx hb hdg ho (Int.toNat_of_nonneg hz).symm (go as ws ls1 _ H locs ⟨t, hl, h1, hw, hP, hD, hS⟩)
      · cases hs
    · next ho =>
      split at hs
      · next off hof =>
        split at hs
        · next hz =>
          cases hs
          exact lv_tableIn hx hb hdg (fun q => ho (Or.inl q)) (fun q => ho (Or.inr q)) hof (Int.toNat_of_nonneg hz).symm (go as ws ls1 _ H locs ⟨t, hl, h1, hw, hP, hD, hS⟩)
        · cases hs
      · cases hs
  · cases hs
end AMS
