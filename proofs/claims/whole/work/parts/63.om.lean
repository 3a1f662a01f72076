/-! ===== THE MODEL'S PILES AHEAD ===== -/
variable {n E : Nat} {p : Nat → Nat}
theorem p15 (v : Nat) : 0 < 15 ^ v := Nat.pow_pos (by decide)
/-- the model's code of the pile of code `c` -/
def mc (n c : Nat) : Nat := sm (fun v => qd c v * 15 ^ v) n
theorem b15_lt {f : Nat → Nat} : ∀ {n : Nat}, (∀ v, v < n → f v < 15) → sm (fun v => f v * 15 ^ v) n < 15 ^ n
  | 0, _ => Nat.one_pos
  | n + 1, h => by
    have a := b15_lt (f := f) (n := n) (fun v hv => h v (by omega))
    have b := h n (by omega)
    have e : 15 ^ (n + 1) = 15 ^ n * 15 := Nat.pow_succ ..
    rw [sm, e]
    have : f n * 15 ^ n ≤ 14 * 15 ^ n := Nat.mul_le_mul_right _ (by omega)
    omega
theorem b15_dg {f : Nat → Nat} : ∀ {n : Nat}, (∀ v, v < n → f v < 15) → ∀ v, v < n → sm (fun v => f v * 15 ^ v) n / 15 ^ v % 15 = f v
  | 0, _, v, hv => absurd hv (Nat.not_lt_zero _)
  | n + 1, h, v, hv => by
    have a := b15_lt (f := f) (n := n) (fun v hv => h v (by omega))
    have b := h n (by omega)
    rw [sm]
    rcases Nat.lt_or_ge v n with hvn | hvn
    · have ih := b15_dg (f := f) (n := n) (fun v hv => h v (by omega)) v hvn
      obtain ⟨k, hk⟩ : ∃ k, n = v + (k + 1) := ⟨n - v - 1, by omega⟩
      have e : 15 ^ n = 15 ^ v * (15 * 15 ^ k) := by rw [hk, Nat.pow_add, Nat.pow_succ, Nat.mul_comm (15 ^ k) 15]
      have e2 : f n * 15 ^ n = 15 ^ v * (15 * (15 ^ k * f n)) := by rw [e, Nat.mul_comm (f n), Nat.mul_assoc, Nat.mul_assoc]
      rw [e2, Nat.add_mul_div_left _ _ (p15 v), Nat.add_mul_mod_self_left]
      exact ih
    · obtain rfl : v = n := by omega
      rw [Nat.add_mul_div_right _ _ (p15 v), Nat.div_eq_of_lt a, Nat.zero_add, Nat.mod_eq_of_lt b]
theorem VC.d15 {c : Nat} (hV : VC n p c) (ht : sm p n ≤ 14) {v : Nat} (hv : v < n) : qd c v < 15 := by
  have := sm_mem (f := qd c) hv
  have := hV.2.1
  omega
theorem mc_lt {c : Nat} (hV : VC n p c) (ht : sm p n ≤ 14) (hn : n ≤ 6) : mc n c < 2 ^ 24 := Nat.lt_of_lt_of_le (b15_lt fun v hv => hV.d15 ht hv) (Nat.le_trans (Nat.pow_le_pow_right (by decide) hn) (by decide))
theorem mc_inj {c d : Nat} (hc : VC n p c) (hd : VC n p d) (ht : sm p n ≤ 14) (h : mc n c = mc n d) : c = d := by
  refine qd_ext hc.1 hd.1 fun v hv => ?_
  rw [← b15_dg (f := qd c) (fun v hv => hc.d15 ht hv) v hv, ← b15_dg (f := qd d) (fun v hv => hd.d15 ht hv) v hv]
  unfold mc at h
  rw [h]
theorem mc_qm {c u v : Nat} (hu : u < n) (hv : v < n) (huv : ¬ u = v) (h2 : 2 ≤ qd c u) (h1 : qd c v + 1 < 16) : 2 * 15 ^ u ≤ mc n c ∧ mc n c - 2 * 15 ^ u + 15 ^ v = mc n (qm c u v) := by
  obtain ⟨_, b⟩ := qm_ok huv h2 h1
  have hm := sm_mem (f := fun v => qd c v * 15 ^ v) hu
  have hm2 : 2 * 15 ^ u ≤ qd c u * 15 ^ u := Nat.mul_le_mul_right _ h2
  have k1 := sm_upd (f := fun w => qd c w * 15 ^ w) (g := fun w => if w = u then (qd c u - 2) * 15 ^ u else qd c w * 15 ^ w) hu (fun w _ hw => if_neg hw)
  have k2 := sm_upd (f := fun w => if w = u then (qd c u - 2) * 15 ^ u else qd c w * 15 ^ w) (g := fun w => qd (qm c u v) w * 15 ^ w) hv (fun w _ hw => by
    show qd (qm c u v) w * 15 ^ w = _
    rw [b w, if_neg hw]
    by_cases q : w = u
    · rw [if_pos q, if_pos q, q]
    · rw [if_neg q, if_neg q])
  have hvu : ¬ v = u := fun h => huv h.symm
  have bv := b v
  rw [if_pos rfl] at bv
  simp only [if_neg hvu, if_pos, bv] at k1 k2
  have e1 : (qd c v + 1) * 15 ^ v = qd c v * 15 ^ v + 15 ^ v := by rw [Nat.add_mul, Nat.one_mul]
  have e2 : (qd c u - 2) * 15 ^ u + 2 * 15 ^ u = qd c u * 15 ^ u := by rw [← Nat.add_mul]; congr 1; omega
  unfold mc
  refine ⟨by omega, by omega⟩
theorem m217 {k : Nat} (hk : k < 6) : F_217 15 (nI k) = some (nI (15 ^ k)) := by
  unfold F_217
  have key : lw (G_217_4 15 (nI k)) 200000 (1, 0) = some (nI (15 ^ k)) := by
    refine lw_seq (fun i => (nI (15 ^ i), nI i)) (n := k) (fun i hi => ?_) ?_ (by omega)
    · simp only [G_217_4]
      rw [if_neg (nI_ge hi (by omega)), z15, pk_mul, z1, nI_add]
      rfl
    · simp only [G_217_4]
      rw [if_pos (nI_le (Nat.le_refl _) (by omega))]
  rw [key, Option.bind_some]
theorem p15_le {k : Nat} (hk : k < 6) : 15 ^ k ≤ 759375 := Nat.le_trans (Nat.pow_le_pow_right (by decide) (show k ≤ 5 by omega)) (by decide)
theorem m219 {x k : Nat} (hx : x < 2 ^ 31) (hk : k < 6) : F_219 (nI x) (nI k) = some (nI (x / 15 ^ k % 15)) := by
  have h1 := p15 k
  have h2 := p15_le hk
  unfold F_219
  have h3 : x / 15 ^ k < 2 ^ 31 := Nat.lt_of_le_of_lt (Nat.div_le_self _ _) hx
  rw [m217 hk, Option.bind_some, if_neg (nI_ne0 h1 (by omega)), pk_div hx h1 (by omega), z15, pk_rem h3 (by decide) (by decide)]
theorem m219d {c k : Nat} (hV : VC n p c) (ht : sm p n ≤ 14) (hn : n ≤ 6) (hk : k < n) : F_219 (nI (mc n c)) (nI k) = some (nI (qd c k)) := by
  have := mc_lt hV ht hn
  rw [m219 (by omega) (by omega)]
  unfold mc
  rw [b15_dg (f := qd c) (fun v hv => hV.d15 ht hv) k hk]
theorem md_places (x : Md) (f : Nat → Int32) : ∃ y, x.w_places f = y ∧ y.places = f ∧ y.met = x.met ∧ y.moved = x.moved ∧ y.metMany = x.metMany ∧ MF x y := ⟨_, rfl, rfl, rfl, rfl, rfl, rfl, rfl, rfl, rfl, rfl, rfl, rfl, rfl, rfl⟩
theorem md_met (x : Md) (f : Nat → Int32) : ∃ y, x.w_met f = y ∧ y.places = x.places ∧ y.met = f ∧ y.moved = x.moved ∧ y.metMany = x.metMany ∧ MF x y := ⟨_, rfl, rfl, rfl, rfl, rfl, rfl, rfl, rfl, rfl, rfl, rfl, rfl, rfl, rfl⟩
theorem md_moved (x : Md) (f : Nat → Int32) : ∃ y, x.w_moved f = y ∧ y.places = x.places ∧ y.met = x.met ∧ y.moved = f ∧ y.metMany = x.metMany ∧ MF x y := ⟨_, rfl, rfl, rfl, rfl, rfl, rfl, rfl, rfl, rfl, rfl, rfl, rfl, rfl, rfl⟩
theorem md_metMany (x : Md) (f : Int32) : ∃ y, x.w_metMany f = y ∧ y.places = x.places ∧ y.met = x.met ∧ y.moved = x.moved ∧ y.metMany = f ∧ MF x y := ⟨_, rfl, rfl, rfl, rfl, rfl, rfl, rfl, rfl, rfl, rfl, rfl, rfl, rfl, rfl⟩
/-- the piles it holds -/
def MT (n T : Nat) (M : Md) (K : List Nat) : Prop := (∃ S, (∀ j, j < 131072 → M.places j = nI (S j) - 1) ∧ HT 131072 h2 S (K.map (mc n))) ∧ M.metMany = nI K.length ∧ ∀ (j c : Nat), K[j]? = some c → M.met j = nI (mc n c) ∧ M.moved j = nI (T - sm (qd c) n)
theorem m218 {T : Nat} {M : Md} {K : List Nat} (hn : n ≤ 6) (ht : sm p n ≤ 14) (hT : MT n T M K) (hK : LI n p K) {c : Nat} (hc : VC n p c) :
    ∃ M', F_218 M (nI (mc n c)) (nI (T - sm (qd c) n)) = some M' ∧ MT n T M' (ins K c) ∧ MF M M' := by
  obtain ⟨⟨S, hS, hH⟩, hm, hR⟩ := hT
  have hL := LI_few hn ht hK
  obtain ⟨d, hd, hb, hf⟩ := hH.find (by rw [List.length_map]; omega) (mc n c)
  have hbig : ∀ j, j < 131072 → S j < 2 ^ 25 := fun j hj => by
    rcases hH.1 j hj with k | ⟨y, k1, k2⟩
    · omega
    · obtain ⟨z, z1, rfl⟩ := List.mem_map.1 k1
      have := mc_lt (hK.2 z z1) ht hn
      omega
  have hx := mc_lt hc ht hn
  have hmem : mc n c ∈ K.map (mc n) ↔ c ∈ K := ⟨fun h => by
    obtain ⟨z, z1, z2⟩ := List.mem_map.1 h
    have := mc_inj (hK.2 z z1) hc ht z2
    subst this; exact z1, fun h => List.mem_map_of_mem h⟩
  have hat : ∀ e, (h2 (mc n c) + e) % 131072 < 131072 := fun e => Nat.mod_lt _ (by decide)
  have v0 : ∀ j, j < 131072 → S j = 0 → M.places j = -1 := fun j hj h => by rw [hS j hj, h]; decide +kernel
  have v1 : ∀ j, j < 131072 → ¬ S j = 0 → M.places j = nI (S j - 1) := fun j hj h => by rw [hS j hj, z1, pk_sub (by omega)]
  have key : G_218_11 M (nI (mc n c)) (nI (T - sm (qd c) n)) (nI ((h2 (mc n c) + d) % 131072)) = some (.inr (nI ((h2 (mc n c) + d) % 131072))) → lw (G_218_11 M (nI (mc n c)) (nI (T - sm (qd c) n))) 200000 ((ushr (nI (mc n c) * (40503 : Int32)) 4) - (ushr (nI (mc n c) * (40503 : Int32)) 4) / (131072 : Int32) * (131072 : Int32)) = some (nI ((h2 (mc n c) + d) % 131072)) := by
    intro hr
    rw [h2_ok]
    have e0 : nI (h2 (mc n c)) = nI ((h2 (mc n c) + 0) % 131072) := by rw [Nat.add_zero, Nat.mod_eq_of_lt (h2_lt _)]
    rw [e0]
    refine lw_seq (fun i => nI ((h2 (mc n c) + i) % 131072)) (n := d) (fun i hi => ?_) hr (by omega)
    have hs := hat i
    obtain ⟨b1, b2⟩ := hb i hi
    have b3 := hbig _ hs
    simp only [G_218_11]
    rw [ixn hs (by decide), Option.bind_some, v1 _ hs b1, if_neg (nI_m1 (by omega)), if_neg (by rw [nI_eq (by omega) (by omega)]; omega), z1, nI_add, show (131072 : Int32) = nI 131072 from rfl, pk_rem (by omega) (by decide) (by decide)]
    rw [show ((h2 (mc n c) + i) % 131072 + 1) % 131072 = (h2 (mc n c) + (i + 1)) % 131072 by omega]
  have hs := hat d
  have b3 := hbig _ hs
  rcases hf with ⟨k1, k2⟩ | ⟨k1, k2⟩
  · have hv := v1 _ hs (by omega)
    rw [k2, Nat.add_sub_cancel] at hv
    refine ⟨M, ?_, by unfold ins; rw [if_pos (hmem.1 k1)]; exact ⟨⟨S, hS, hH⟩, hm, hR⟩, MF.rf M⟩
    unfold F_218
    rw [key ?_, Option.bind_some]
    · simp only [J_218_0_j41]
      rw [ixn hs (by decide), Option.bind_some, hv, if_neg (fun k => k rfl)]
    · simp only [G_218_11]
      rw [ixn hs (by decide), Option.bind_some, hv, if_neg (nI_m1 (by omega)), if_pos rfl]
  · have hv := v0 _ hs k2
    have kc : ¬ c ∈ K := fun h => k1 (hmem.2 h)
    obtain ⟨y1, hy1, a1, a2, a3, a4, a5⟩ := md_places M (upd M.places ((h2 (mc n c) + d) % 131072) (nI (mc n c)))
    obtain ⟨y2, hy2, c1, c2, c3, c4, c5⟩ := md_met y1 (upd y1.met K.length (nI (mc n c)))
    obtain ⟨y3, hy3, d1, d2, d3, d4, d5⟩ := md_moved y2 (upd y2.moved K.length (nI (T - sm (qd c) n)))
    obtain ⟨y4, hy4, e1, e2, e3, e4, e5⟩ := md_metMany y3 (nI (K.length + 1))
    have m1 : y1.metMany = nI K.length := a4.trans hm
    have m2 : y2.metMany = nI K.length := c4.trans m1
    have m3 : y3.metMany = nI K.length := d4.trans m2
    have hins : ins K c = K ++ [c] := by unfold ins; rw [if_neg kc]
    refine ⟨y4, ?_, ?_, ((a5.tr c5).tr d5).tr e5⟩
    · unfold F_218
      rw [key ?_, Option.bind_some]
      · simp only [J_218_0_j41]
        rw [ixn hs (by decide), Option.bind_some, hv, if_pos (fun k => nI_m1 (by omega) k.symm), hy1, Option.bind_some, m1, ixn (by omega) (by decide), Option.bind_some, hy2, Option.bind_some, m2, ixn (by omega) (by decide), Option.bind_some, hy3, Option.bind_some, m3, nI_1, hy4, Option.bind_some]
      · simp only [G_218_11]
        rw [ixn hs (by decide), Option.bind_some, hv, if_pos rfl]
    · rw [hins]
      refine ⟨⟨_, fun j hj => ?_, by rw [List.map_append]; exact hH.ins hd k2 (fun e he => (hb e he).1)⟩, by rw [e4, List.length_append]; rfl, fun j x hj => ?_⟩
      · rw [e1, d1, c1, a1]
        by_cases q : j = (h2 (mc n c) + d) % 131072
        · rw [q, pk_us, if_pos rfl, z1, pk_sub (by omega), Nat.add_sub_cancel]
        · rw [pk_un q, if_neg q, hS j hj]
      · rw [e2, d2, e3, d3, c2, c3, a2, a3]
        by_cases q : j = K.length
        · subst q
          rw [List.getElem?_append_right (Nat.le_refl _), Nat.sub_self] at hj
          have : c = x := by simpa using hj
          subst this
          rw [pk_us, pk_us]
          exact ⟨rfl, rfl⟩
        · rw [pk_un q, pk_un q]
          refine hR j x ?_
          rcases Nat.lt_or_ge j K.length with w | w
          · rw [List.getElem?_append_left w] at hj; exact hj
          · rw [List.getElem?_eq_none (by rw [List.length_append]; show K.length + 1 ≤ j; omega)] at hj
            cases hj
