/-! ===== THE WALK OVER THE PILES AHEAD ===== -/
variable {n E : Nat} {p : Nat → Nat}
def ins (L : List Nat) (x : Nat) : List Nat := if x ∈ L then L else L ++ [x]
def wk1 (E c u : Nat) (L : List Nat) : Nat → List Nat
  | 0 => L
  | v + 1 => if ad E u v then ins (wk1 E c u L v) (qm c u v) else wk1 E c u L v
def wk2 (n E c : Nat) (L : List Nat) : Nat → List Nat
  | 0 => L
  | u + 1 => if 2 ≤ qd c u then wk1 E c u (wk2 n E c L u) n else wk2 n E c L u
def wk (n E c0 : Nat) : Nat → List Nat
  | 0 => [c0]
  | i + 1 => match (wk n E c0 i)[i]? with
    | some c => wk2 n E c (wk n E c0 i) n
    | none => wk n E c0 i
/-- what holds of a pile ahead -/
def VC (n : Nat) (p : Nat → Nat) (c : Nat) : Prop := c < 16 ^ n ∧ sm (qd c) n ≤ sm p n ∧ sm (fun v => qd c v - p v) n ≤ sm (fun v => (p v - qd c v) / 2) n
def LI (n : Nat) (p : Nat → Nat) (L : List Nat) : Prop := L.Pairwise (fun a b => ¬ a = b) ∧ ∀ c, c ∈ L → VC n p c
theorem ins_pre (L : List Nat) (x : Nat) : ∃ t, ins L x = L ++ t := by
  unfold ins
  split
  · exact ⟨[], (List.append_nil L).symm⟩
  · exact ⟨[x], rfl⟩
theorem wk1_pre (E c u : Nat) (L : List Nat) : ∀ v, ∃ t, wk1 E c u L v = L ++ t
  | 0 => ⟨[], (List.append_nil L).symm⟩
  | v + 1 => by
    obtain ⟨t, ht⟩ := wk1_pre E c u L v
    unfold wk1
    split
    · obtain ⟨r, hr⟩ := ins_pre (wk1 E c u L v) (qm c u v)
      exact ⟨t ++ r, by rw [hr, ht, List.append_assoc]⟩
    · exact ⟨t, ht⟩
theorem wk2_pre (n E c : Nat) (L : List Nat) : ∀ u, ∃ t, wk2 n E c L u = L ++ t
  | 0 => ⟨[], (List.append_nil L).symm⟩
  | u + 1 => by
    obtain ⟨t, ht⟩ := wk2_pre n E c L u
    unfold wk2
    split
    · obtain ⟨r, hr⟩ := wk1_pre E c u (wk2 n E c L u) n
      exact ⟨t ++ r, by rw [hr, ht, List.append_assoc]⟩
    · exact ⟨t, ht⟩
theorem wk_pre1 (n E c0 i : Nat) : ∃ t, wk n E c0 (i + 1) = wk n E c0 i ++ t := by
  show ∃ t, (match (wk n E c0 i)[i]? with
    | some c => wk2 n E c (wk n E c0 i) n
    | none => wk n E c0 i) = wk n E c0 i ++ t
  split
  · exact wk2_pre ..
  · exact ⟨[], (List.append_nil _).symm⟩
theorem wk_stop {n E c0 i : Nat} (h : (wk n E c0 i).length ≤ i) : ∀ k, wk n E c0 (i + k) = wk n E c0 i
  | 0 => rfl
  | k + 1 => by
    have ih := wk_stop h k
    show (match (wk n E c0 (i + k))[i + k]? with
    | some c => wk2 n E c (wk n E c0 (i + k)) n
    | none => wk n E c0 (i + k)) = wk n E c0 i
    rw [ih, List.getElem?_eq_none (by omega)]
theorem wk_next {n E c0 i : Nat} (h : i < (wk n E c0 i).length) : wk n E c0 (i + 1) = wk2 n E (wk n E c0 i)[i] (wk n E c0 i) n := by
  show (match (wk n E c0 i)[i]? with
    | some c => wk2 n E c (wk n E c0 i) n
    | none => wk n E c0 i) = _
  rw [List.getElem?_eq_getElem h]
theorem qd_tot {c u v : Nat} (hu : u < n) (hv : v < n) (huv : ¬ u = v) (h2 : 2 ≤ qd c u) (ht : sm (qd c) n ≤ 14) : qd c v + 1 < 16 := by
  have h3 : qd c v < 15 := by
    rcases Nat.lt_or_ge (qd c v) 15 with h | h
    · exact h
    · have := sm_mem (f := qd c) hv
      omega
  omega
/-- the sum after a move -/
theorem qm_tot {c u v : Nat} (hu : u < n) (hv : v < n) (huv : ¬ u = v) (h2 : 2 ≤ qd c u) (h1 : qd c v + 1 < 16) : sm (qd (qm c u v)) n + 1 = sm (qd c) n := by
  obtain ⟨_, b⟩ := qm_ok huv h2 h1
  have k1 := sm_upd (f := qd c) (g := fun w => if w = u then qd c u - 2 else qd c w) hu (fun w _ hw => if_neg hw)
  have k2 := sm_upd (f := fun w => if w = u then qd c u - 2 else qd c w) (g := qd (qm c u v)) hv (fun w _ hw => by rw [b w, if_neg hw])
  have b1 := b v
  rw [if_pos rfl] at b1
  have hvu : ¬ v = u := fun h => huv h.symm
  simp only [if_neg hvu, if_pos] at k1 k2
  omega
theorem VC_mv {c u v : Nat} (hV : VC n p c) (hp : sm p n ≤ 14) (hu : u < n) (hv : v < n) (huv : ¬ u = v) (h2 : 2 ≤ qd c u) : VC n p (qm c u v) := by
  obtain ⟨a, d, e⟩ := hV
  have h1 := qd_tot hu hv huv h2 (by omega)
  obtain ⟨_, b⟩ := qm_ok huv h2 h1
  have kt := qm_tot hu hv huv h2 h1
  refine ⟨qm_lt a hu hv huv h2 h1, by omega, ?_⟩
  have bu := b u
  rw [if_neg huv, if_pos rfl] at bu
  have bv := b v
  rw [if_pos rfl] at bv
  have bw : ∀ w, ¬ w = v → ¬ w = u → qd (qm c u v) w = qd c w := fun w h1 h2 => by rw [b w, if_neg h1, if_neg h2]
  generalize hg : qd (qm c u v) = g at *
  have k1 := sm_upd (f := fun w => qd c w - p w) (g := fun w => if w = u then qd c u - 2 - p u else qd c w - p w) hu (fun w _ hw => if_neg hw)
  have k2 := sm_upd (f := fun w => if w = u then qd c u - 2 - p u else qd c w - p w) (g := fun w => g w - p w) hv (fun w _ hw => by
    by_cases q : w = u
    · subst q; rw [if_pos rfl, bu]
    · rw [if_neg q, bw w hw q])
  have k3 := sm_upd (f := fun w => (p w - qd c w) / 2) (g := fun w => if w = u then (p u - (qd c u - 2)) / 2 else (p w - qd c w) / 2) hu (fun w _ hw => if_neg hw)
  have k4 := sm_upd (f := fun w => if w = u then (p u - (qd c u - 2)) / 2 else (p w - qd c w) / 2) (g := fun w => (p w - g w) / 2) hv (fun w _ hw => by
    by_cases q : w = u
    · subst q; rw [if_pos rfl, bu]
    · rw [if_neg q, bw w hw q])
  have hvu : ¬ v = u := fun h => huv h.symm
  simp only [if_neg hvu, if_pos] at k1 k2 k3 k4
  omega
theorem LI_ins {L : List Nat} {x : Nat} (h : LI n p L) (hx : VC n p x) : LI n p (ins L x) := by
  unfold ins
  by_cases hm : x ∈ L
  · rw [if_pos hm]; exact h
  · rw [if_neg hm]
    refine ⟨List.pairwise_append.2 ⟨h.1, List.pairwise_singleton .., fun a ha b hb e => ?_⟩, fun c hc => ?_⟩
    · rw [List.mem_singleton] at hb; subst hb; subst e; exact hm ha
    · rcases List.mem_append.1 hc with k | k
      · exact h.2 c k
      · rw [List.mem_singleton] at k; subst k; exact hx
theorem LI_wk1 (hG : Gr n E) (hp : sm p n ≤ 14) {L : List Nat} (h : LI n p L) {c u : Nat} (hc : VC n p c) (hu : u < n) (h2 : 2 ≤ qd c u) : ∀ v, v ≤ n → LI n p (wk1 E c u L v)
  | 0, _ => h
  | v + 1, hv => by
    have ih := LI_wk1 hG hp h hc hu h2 v (by omega)
    unfold wk1
    split
    · rename_i ha
      exact LI_ins ih (VC_mv hc hp hu (by omega) (hG.ne (by omega) ha) h2)
    · exact ih
theorem LI_wk2 (hG : Gr n E) (hp : sm p n ≤ 14) {L : List Nat} (h : LI n p L) {c : Nat} (hc : VC n p c) : ∀ u, u ≤ n → LI n p (wk2 n E c L u)
  | 0, _ => h
  | u + 1, hu => by
    have ih := LI_wk2 hG hp h hc u (by omega)
    unfold wk2
    split
    · rename_i h2
      exact LI_wk1 hG hp ih hc (by omega) h2 n (Nat.le_refl _)
    · exact ih
theorem LI_wk (hG : Gr n E) (hp : sm p n ≤ 14) {c0 : Nat} (h0 : VC n p c0) : ∀ i, LI n p (wk n E c0 i)
  | 0 => ⟨List.pairwise_singleton .., fun c hc => by rw [show wk n E c0 0 = [c0] from rfl, List.mem_singleton] at hc; subst hc; exact h0⟩
  | i + 1 => by
    have ih := LI_wk hG hp h0 i
    rcases Nat.lt_or_ge i (wk n E c0 i).length with h | h
    · rw [wk_next h]
      exact LI_wk2 hG hp ih (ih.2 _ (List.getElem_mem h)) n (Nat.le_refl _)
    · rw [wk_stop h 1]; exact ih
theorem LI_few (hn : n ≤ 6) (hp : sm p n ≤ 14) {L : List Nat} (h : LI n p L) : L.length ≤ 8120 := by
  -- outside the graph nothing lies
  have hz : ∀ f : Nat → Nat, ∀ k, (∀ v, n ≤ v → f v = 0) → sm f (n + k) = sm f n := fun f k hf => by
    induction k with
    | zero => rfl
    | succ k ih => rw [← Nat.add_assoc, sm, ih, hf _ (by omega), Nat.add_zero]
  let q : Nat → Nat := fun v => if v < n then p v else 0
  have q1 : ∀ v, v < n → q v = p v := fun v hv => if_pos hv
  have q0 : ∀ v, n ≤ v → q v = 0 := fun v hv => if_neg (by omega)
  have e6 : n + (6 - n) = 6 := by omega
  have hs : sm q 6 = sm p n := by
    rw [← e6, hz q _ q0]
    exact sm_cong q1
  have := few6 q 6 (Nat.le_refl _) 14 7 L (Nat.le_refl _) (by decide) (by omega) ?_ ?_
  · rw [show gtb (ptk 6) 14 7 = 8120 from ptk_6] at this; exact this
  · refine List.Pairwise.imp_of_mem ?_ h.1
    intro a b ha hb hne
    refine Decidable.byContradiction fun hc => hne ?_
    refine qd_ext (k := n) (h.2 a ha).1 (h.2 b hb).1 fun v hv => ?_
    refine Decidable.byContradiction fun hd => hc ⟨v, by omega, hd⟩
  · intro c hc
    obtain ⟨c1, _, c3⟩ := h.2 c hc
    have a1 : sm (fun v => qd c v - q v) 6 = sm (fun v => qd c v - p v) n := by
      rw [← e6, hz (fun v => qd c v - q v) _ (fun v hv => by show qd c v - q v = 0; rw [qd_top c1 hv, Nat.zero_sub])]
      exact sm_cong (fun v hv => by show qd c v - q v = _; rw [q1 v hv])
    have a2 : sm (fun v => (q v - qd c v) / 2) 6 = sm (fun v => (p v - qd c v) / 2) n := by
      rw [← e6, hz (fun v => (q v - qd c v) / 2) _ (fun v hv => by show (q v - qd c v) / 2 = 0; rw [q0 v hv, Nat.zero_sub])]
      exact sm_cong (fun v hv => by show (q v - qd c v) / 2 = _; rw [q1 v hv])
    omega
/-- the piles ahead -/
def qa (n E c0 : Nat) : List Nat := wk n E c0 8192
theorem wk_pre {n E c0 : Nat} (i : Nat) : ∀ k, ∃ t, wk n E c0 (i + k) = wk n E c0 i ++ t
  | 0 => ⟨[], (List.append_nil _).symm⟩
  | k + 1 => by
    obtain ⟨t, ht⟩ := wk_pre (n := n) (E := E) (c0 := c0) i k
    obtain ⟨r, hr⟩ := wk_pre1 n E c0 (i + k)
    exact ⟨t ++ r, by rw [← Nat.add_assoc, hr, ht, List.append_assoc]⟩
/-- the code of a pile -/
def qc (p : Nat → Nat) (n : Nat) : Nat := sm (fun v => p v * 16 ^ v) n
theorem qc_lt : ∀ {n : Nat}, (∀ v, v < n → p v < 16) → qc p n < 16 ^ n
  | 0, _ => Nat.one_pos
  | n + 1, h => by
    have a := qc_lt (n := n) (fun v hv => h v (by omega))
    have b := h n (by omega)
    have e : 16 ^ (n + 1) = 16 ^ n * 16 := Nat.pow_succ ..
    unfold qc at *
    rw [sm, e]
    have : p n * 16 ^ n ≤ 15 * 16 ^ n := Nat.mul_le_mul_right _ (by omega)
    omega
theorem qc_qd : ∀ {n : Nat}, (∀ v, v < n → p v < 16) → ∀ v, v < n → qd (qc p n) v = p v
  | 0, _, v, hv => absurd hv (Nat.not_lt_zero _)
  | n + 1, h, v, hv => by
    have a := qc_lt (n := n) (fun v hv => h v (by omega))
    have b := h n (by omega)
    have ih := qc_qd (n := n) (fun v hv => h v (by omega))
    have e : qc p (n + 1) = qc p n + p n * 16 ^ n := rfl
    rw [e]
    have gen : ∀ d, d < 16 → qd (qc p n + d * 16 ^ n) n = d ∧ ∀ w, w < n → qd (qc p n + d * 16 ^ n) w = qd (qc p n) w := fun d hd => by
      induction d with
      | zero => rw [Nat.zero_mul, Nat.add_zero]; exact ⟨qd_top a (Nat.le_refl _), fun _ _ => rfl⟩
      | succ d ihd =>
        obtain ⟨g1, g2⟩ := ihd (by omega)
        have e2 : qc p n + (d + 1) * 16 ^ n = qc p n + d * 16 ^ n + 16 ^ n := by rw [Nat.add_mul, Nat.one_mul, Nat.add_assoc]
        have g3 := qd_add (c := qc p n + d * 16 ^ n) (v := n) (by omega)
        rw [e2]
        refine ⟨by rw [g3 n, if_pos rfl, g1], fun w hw => by rw [g3 w, if_neg (by omega), g2 w hw]⟩
    rcases Nat.lt_or_ge v n with hvn | hvn
    · rw [(gen (p n) b).2 v hvn, ih v hvn]
    · obtain rfl : v = n := by omega
      exact (gen (p v) b).1
