/-! ===== THE MODEL'S NUMBER OF A TREE ===== -/
section TREE
variable {n E t : Nat} {par : Nat → Nat} {M : Md}
/-- `c` stands before `v` among the children -/
def bet (n E t : Nat) (par : Nat → Nat) (v c : Nat) : Bool := decide (¬ c = t ∧ par c = par v ∧ (hh n E t par v < hh n E t par c ∨ (hh n E t par c = hh n E t par v ∧ c < v)))
def go (n E t : Nat) (par : Nat → Nat) (v : Nat) : Bool := al (fun c => !bet n E t par v c) n
theorem m237 (hM : MR n E M.now) (hD : MDi n E M t) (hH : ∀ v, v < n → M.heights v = nI (hh n E t par v)) (hT : TR n E t par) (hG : Gr n E) (ht : t < n) {v : Nat} (hv : v < n) (hvt : ¬ v = t) : F_237 M (nI v) (nI t) = some (bI (go n E t par v)) := by
  have hn := hG.2.1
  obtain ⟨p1, p2, p3⟩ := hT.pa hv hvt
  have hhv := hh_le hT hv
  have dp := ds_le6 n E t (par v)
  have key : ∃ r, lw (G_237_10 M (nI v) (nI t) (nI (par v))) 200000 (nI 0) = some r ∧ ((al (fun i => !bet n E t par v i) n = true ∧ r = .inl ()) ∨ (al (fun i => !bet n E t par v i) n = false ∧ r = .inr 0)) := by
    refine lw_all (P := fun i => !bet n E t par v i) (fun i hi => ?_) ?_ (by omega)
    · have hhi := hh_le hT hi
      have di := ds_le6 n E t i
      have child : (ad E (par v) i = true ∧ ds n E t (par v) < ds n E t i) ↔ (¬ i = t ∧ par i = par v) := by
        constructor
        · rintro ⟨a, b⟩
          rcases hT.2.2 (par v) i p1 hi a with q | q
          · exact q
          · obtain ⟨_, _, c⟩ := hT.pa p1 q.1
            rw [q.2] at c
            omega
        · rintro ⟨a, b⟩
          obtain ⟨c1, c2, c3⟩ := hT.pa hi a
          rw [b] at c2 c3
          exact ⟨hG.sym p1 c2, by omega⟩
      have no : ¬ (¬ i = t ∧ par i = par v) → (if (!bet n E t par v i) = true then some (.inl (nI (i + 1))) else some (.inr (.inr 0)) : Option (Int32 ⊕ Unit ⊕ Int32)) = some (.inl (nI (i + 1))) := fun q => by
        have : bet n E t par v i = false := decide_eq_false fun k => q ⟨k.1, k.2.1⟩
        rw [this]
        rfl
      simp only [G_237_10]
      rw [show ix 0 93 = some 0 from rfl, Option.bind_some, hM.1, if_neg (nI_ge hi (by omega)), m175 hM (by omega) (by omega), Option.bind_some]
      by_cases q : ad E (par v) i = true
      · rw [q, if_neg (by decide), m183 hD hn (by omega) hi, Option.bind_some, m183 hD hn (by omega) p1, Option.bind_some]
        by_cases q2 : ds n E t (par v) < ds n E t i
        · have ch := child.1 ⟨q, q2⟩
          rw [if_neg (nI_ge q2 (by omega))]
          simp only [J_237_10_j52]
          rw [if_neg (by decide), ixn (by omega) (by decide), Option.bind_some, ixn (by omega) (by decide), Option.bind_some, hH i hi, hH v hv]
          by_cases q3 : hh n E t par v < hh n E t par i
          · have : bet n E t par v i = true := decide_eq_true ⟨ch.1, ch.2, .inl q3⟩
            rw [if_pos (nI_lt q3 (by omega)), this]
            rfl
          · rw [if_neg (nI_nlt (by omega) (by omega))]
            by_cases q4 : hh n E t par i = hh n E t par v
            · rw [if_neg (by rw [q4]; exact fun k => k rfl)]
              by_cases q5 : i < v
              · have : bet n E t par v i = true := decide_eq_true ⟨ch.1, ch.2, .inr ⟨q4, q5⟩⟩
                rw [if_neg (nI_ge q5 (by omega)), this]
                rfl
              · have : bet n E t par v i = false := decide_eq_false fun k => by
                  rcases k.2.2 with z | z
                  · omega
                  · omega
                rw [if_pos (nI_le (by omega) (by omega)), this]
                simp only [J_237_10_j99]
                rw [nI_1]
                rfl
            · have : bet n E t par v i = false := decide_eq_false fun k => by
                rcases k.2.2 with z | z
                · omega
                · omega
              rw [if_pos (by rw [nI_eq (by omega) (by omega)]; exact q4), this]
              simp only [J_237_10_j99]
              rw [nI_1]
              rfl
        · rw [no (fun k => q2 (child.2 k).2), if_pos (nI_le (by omega) (by omega))]
          simp only [J_237_10_j51, J_237_10_j52, J_237_10_j99]
          rw [if_pos trivial, nI_1]
      · rw [no (fun k => q (child.2 k).1), Bool.eq_false_iff.2 q, if_pos (by decide)]
        simp only [J_237_10_j51, J_237_10_j52, J_237_10_j99]
        rw [if_pos trivial, nI_1]
    · simp only [G_237_10]
      rw [show ix 0 93 = some 0 from rfl, Option.bind_some, hM.1, if_pos (nI_le (Nat.le_refl _) (by omega))]
  obtain ⟨r, hr, h⟩ := key
  rw [nI_0] at hr
  unfold F_237
  rw [m236 hM hD hT hn ht hv hvt, Option.bind_some, hr, Option.bind_some]
  unfold go
  rcases h with ⟨h1, rfl⟩ | ⟨h1, rfl⟩
  · rw [h1]; rfl
  · rw [h1]; rfl
/-- what a vertex adds -/
def gv (n E t : Nat) (par : Nat → Nat) (v : Nat) : Nat := if ¬ v = t ∧ (par v = t ∨ go n E t par v = false) then 2 ^ (hh n E t par v + 1) - 1 else 0
theorem go_one (hT : TR n E t par) {v : Nat} (hv : v < n) (h1 : 1 ≤ hh n E t par v) : ∃ u, u < n ∧ (¬ u = t ∧ par u = v ∧ go n E t par u = true) ∧ hh n E t par u + 1 = hh n E t par v ∧ ∀ w, w < n → (¬ w = t ∧ par w = v ∧ go n E t par w = true) → w = u := by
  have hrec := hh_rec hT hv
  have ex : ∃ c, c < n ∧ ¬ c = t ∧ par c = v ∧ hh n E t par c + 1 = hh n E t par v := by
    rcases mxl_att (f := fun c => if ¬ c = t ∧ par c = v then hh n E t par c + 1 else 0) (c := 0) n with k | ⟨c, hc, k⟩
    · have : hk n E t par v n = 0 := k
      omega
    · by_cases q : ¬ c = t ∧ par c = v
      · have : hk n E t par v n = hh n E t par c + 1 := k.trans (if_pos q)
        exact ⟨c, hc, q.1, q.2, by omega⟩
      · have : hk n E t par v n = 0 := k.trans (if_neg q)
        omega
  obtain ⟨u, u1, ⟨u2, u3, u4⟩, u5⟩ := least (P := fun c => ¬ c = t ∧ par c = v ∧ hh n E t par c + 1 = hh n E t par v) ex
  have le : ∀ c, c < n → ¬ c = t → par c = v → hh n E t par c + 1 ≤ hh n E t par v := fun c hc h2 h3 => by
    have := mxl_mem (f := fun c => if ¬ c = t ∧ par c = v then hh n E t par c + 1 else 0) (c := 0) hc
    have e : (if ¬ c = t ∧ par c = v then hh n E t par c + 1 else 0) = hh n E t par c + 1 := if_pos ⟨h2, h3⟩
    have m : hh n E t par c + 1 ≤ hk n E t par v n := by rw [← e]; exact this
    omega
  have gu : go n E t par u = true := al_iff.2 fun c hc => by
    have : bet n E t par u c = false := decide_eq_false fun ⟨k1, k2, k3⟩ => by
      rw [u3] at k2
      have := le c hc k1 k2
      rcases k3 with z | ⟨z1, z2⟩
      · omega
      · exact u5 c z2 ⟨k1, k2, by omega⟩
    rw [this]
    rfl
  refine ⟨u, u1, ⟨u2, u3, gu⟩, u4, fun w hw ⟨w1, w2, w3⟩ => ?_⟩
  have a := al_iff.1 w3 u u1
  have b := al_iff.1 gu w hw
  have a' : bet n E t par w u = false := by simpa using a
  have b' : bet n E t par u w = false := by simpa using b
  have a2 := of_decide_eq_false a'
  have b2 := of_decide_eq_false b'
  have l1 := le w hw w1 w2
  refine Decidable.byContradiction fun hne => ?_
  rcases Nat.lt_trichotomy (hh n E t par w) (hh n E t par u) with z | z | z
  · exact a2 ⟨u2, by rw [u3, w2], .inl z⟩
  · rcases Nat.lt_or_ge w u with y | y
    · exact b2 ⟨w1, by rw [u3, w2], .inr ⟨z, y⟩⟩
    · exact a2 ⟨u2, by rw [u3, w2], .inr ⟨z.symm, by omega⟩⟩
  · omega
/-- both ways to the number -/
theorem gv_sum (hT : TR n E t par) : 1 + sm (gv n E t par) n = tn n E t par := by
  let F : Nat → Nat → Nat := fun u v => if (¬ v = t) ∧ (¬ u = t ∧ par u = v ∧ go n E t par u = true) then 2 ^ (hh n E t par u + 1) - 1 else 0
  have s1 : sm (fun u => sm (F u) n) n = sm (fun u => if ¬ u = t ∧ ¬ (par u = t ∨ go n E t par u = false) then 2 ^ (hh n E t par u + 1) - 1 else 0) n := by
    refine sm_cong fun u hu => ?_
    by_cases q : ¬ u = t
    · obtain ⟨p1, _, _⟩ := hT.pa hu q
      rw [sm_one (f := F u) (k := par u) p1 (fun v _ hv => if_neg fun k => hv k.2.2.1.symm)]
      refine if_iff ⟨fun k => ⟨q, fun z => ?_⟩, fun k => ⟨fun z => k.2 (.inl z), q, rfl, ?_⟩⟩ _ _
      · rcases z with z | z
        · exact k.1 z
        · rw [z] at k; exact absurd k.2.2.2 (by decide)
      · cases hg : go n E t par u with
        | true => rfl
        | false => exact absurd (.inr hg) k.2
    · rw [if_neg (fun k => q k.1)]
      exact sm_zero fun v _ => if_neg fun k => q k.2.1
  have s2 : sm (fun v => sm (fun u => F u v) n) n = sm (fun v => if ¬ v = t then 2 ^ hh n E t par v - 1 else 0) n := by
    refine sm_cong fun v hv => ?_
    by_cases q : ¬ v = t
    · rw [if_pos q]
      by_cases q1 : 1 ≤ hh n E t par v
      · obtain ⟨u, u1, u2, u3, u4⟩ := go_one hT hv q1
        rw [sm_one (f := fun u => F u v) (k := u) u1 (fun w hw hne => if_neg fun k => hne (u4 w hw k.2))]
        show (if _ then _ else _) = _
        rw [if_pos ⟨q, u2⟩, u3]
      · rw [show hh n E t par v = 0 by omega]
        refine sm_zero fun u hu => if_neg fun k => ?_
        have := mxl_mem (f := fun c => if ¬ c = t ∧ par c = v then hh n E t par c + 1 else 0) (c := 0) hu
        have e : (if ¬ u = t ∧ par u = v then hh n E t par u + 1 else 0) = hh n E t par u + 1 := if_pos ⟨k.2.1, k.2.2.1⟩
        have m : hh n E t par u + 1 ≤ hk n E t par v n := by rw [← e]; exact this
        rw [hh_rec hT hv] at m
        omega
    · rw [if_neg q]
      exact sm_zero fun u _ => if_neg fun k => q k.1
  have sw := sm_swap (f := F) n n
  have tops : sm (gv n E t par) n + sm (fun u => if ¬ u = t ∧ ¬ (par u = t ∨ go n E t par u = false) then 2 ^ (hh n E t par u + 1) - 1 else 0) n = sm (fun v => if ¬ v = t then 2 ^ hh n E t par v else 0) n + sm (fun v => if ¬ v = t then 2 ^ hh n E t par v - 1 else 0) n := by
    rw [← sm_add, ← sm_add]
    refine sm_cong fun v _ => ?_
    have h2 := Nat.one_le_two_pow (n := hh n E t par v)
    show (if _ then _ else _) + _ = _
    by_cases q : ¬ v = t
    · by_cases q1 : par v = t ∨ go n E t par v = false
      · rw [if_pos ⟨q, q1⟩, if_neg (fun k => k.2 q1), if_pos q, if_pos q, Nat.pow_succ]; omega
      · rw [if_neg (fun k => q1 k.2), if_pos ⟨q, q1⟩, if_pos q, if_pos q, Nat.pow_succ]; omega
    · rw [if_neg (fun k => q k.1), if_neg (fun k => q k.1), if_neg q, if_neg q]
  unfold tn
  omega
theorem m238l (hM : MR n E M.now) (hD : MDi n E M t) (hH : ∀ v, v < n → M.heights v = nI (hh n E t par v)) (hT : TR n E t par) (hG : Gr n E) (ht : t < n) : lw (G_238_57 M (nI t)) 200000 (1, 0) = some (nI (tn n E t par)) := by
  have hn := hG.2.1
  rw [← gv_sum hT]
  refine lw_seq (fun i => (nI (1 + sm (gv n E t par) i), nI i)) (n := n) (fun i hi => ?_) ?_ (by omega)
  · have hhi := hh_le hT hi
    have h2 := Nat.one_le_two_pow (n := hh n E t par i + 1)
    simp only [G_238_57]
    rw [show ix 0 93 = some 0 from rfl, Option.bind_some, hM.1, if_neg (nI_ge hi (by omega))]
    have add : gv n E t par i = 2 ^ (hh n E t par i + 1) - 1 → J_238_57_j99 M (nI t) (nI (1 + sm (gv n E t par) i)) (nI i) 1 = some (.inl (nI (1 + sm (gv n E t par) (i + 1)), nI (i + 1))) := fun hg => by
      simp only [J_238_57_j99, J_238_57_j123, J_238_57_j125]
      rw [if_neg (by decide), ixn (by omega) (by decide), Option.bind_some, hH i hi, nI_1, nI_1, show (1 : Int32) <<< (nI (hh n E t par i + 1) &&& 31) = nI (2 ^ (hh n E t par i + 1)) by rw [show (1 : Int32) <<< (nI (hh n E t par i + 1) &&& 31) = nI (1 <<< (hh n E t par i + 1)) from shl_n 1 (by omega), Nat.one_shiftLeft], z1, pk_sub h2, nI_add, sm, hg, Nat.add_assoc]
    by_cases q : i = t
    · have g0 : gv n E t par i = 0 := if_neg fun k => k.1 q
      rw [if_neg (by rw [q]; exact fun k => k rfl)]
      simp only [J_238_57_j125]
      rw [nI_1, sm, g0]
      rfl
    · obtain ⟨p1, _, _⟩ := hT.pa hi q
      rw [if_pos (by rw [nI_eq (by omega) (by omega)]; exact q), m236 hM hD hT hn ht hi q, Option.bind_some]
      by_cases q1 : par i = t
      · rw [if_pos (by rw [q1])]
        exact add (if_pos ⟨q, .inl q1⟩)
      · rw [if_neg (by rw [nI_eq (by omega) (by omega)]; exact q1), m237 hM hD hH hT hG ht hi q, Option.bind_some]
        cases hg : go n E t par i with
        | true =>
          have g0 : gv n E t par i = 0 := if_neg fun k => by
            rcases k.2 with z | z
            · exact q1 z
            · rw [hg] at z; cases z
          rw [if_pos (by decide)]
          simp only [J_238_57_j99, J_238_57_j123, J_238_57_j125]
          rw [if_pos trivial, nI_1, sm, g0, z0, nI_add]
          rfl
        | false =>
          rw [if_neg (by decide)]
          exact add (if_pos ⟨q, .inr hg⟩)
  · simp only [G_238_57]
    rw [show ix 0 93 = some 0 from rfl, Option.bind_some, hM.1, if_pos (nI_le (Nat.le_refl _) (by omega))]
end TREE
