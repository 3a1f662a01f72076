/-! ===== TEXT APPENDED ===== -/
def bq (x s : Int32) : Nat := ((x >>> (s &&& 31)) &&& 255).toBitVec.toNat
theorem bq_lt (x s : Int32) : bq x s < 256 := by
  have h : bq x s = (x >>> (s &&& 31)).toBitVec.toNat &&& 255 := by
    unfold bq
    rw [Int32.toBitVec_and, BitVec.toNat_and]
    rfl
  have := Nat.and_le_right (n := (x >>> (s &&& 31)).toBitVec.toNat) (m := 255)
  omega
theorem bq_n (x s : Int32) : (x >>> (s &&& 31)) &&& 255 = nI (bq x s) := by
  unfold bq
  generalize (x >>> (s &&& 31)) &&& 255 = y
  apply Int32.toBitVec_inj.1
  show y.toBitVec = BitVec.ofNat 32 y.toBitVec.toNat
  simp
/-- bytes laid behind a text, the zeros left out -/
def ap : List Nat → (Nat → Nat) → Nat → (Nat → Nat) × Nat
  | [], b, len => (b, len)
  | m :: l, b, len => if m = 0 then ap l b len else ap l (fun j => if j = len then m else b j) (len + 1)
def cn : List Nat → Nat
  | [] => 0
  | m :: l => (if m = 0 then 0 else 1) + cn l
theorem ap_app : ∀ (l l2 : List Nat) (b : Nat → Nat) (len : Nat), ap (l ++ l2) b len = ap l2 (ap l b len).1 (ap l b len).2
  | [], l2, b, len => rfl
  | m :: l, l2, b, len => by
    show (if m = 0 then ap (l ++ l2) b len else ap (l ++ l2) (fun j => if j = len then m else b j) (len + 1)) = ap l2 (if m = 0 then ap l b len else ap l (fun j => if j = len then m else b j) (len + 1)).1 (if m = 0 then ap l b len else ap l (fun j => if j = len then m else b j) (len + 1)).2
    by_cases h : m = 0
    · rw [if_pos h, if_pos h]; exact ap_app l l2 b len
    · rw [if_neg h, if_neg h]; exact ap_app l l2 _ _
theorem ap_len : ∀ (l : List Nat) (b : Nat → Nat) (len : Nat), (ap l b len).2 = len + cn l
  | [], b, len => rfl
  | m :: l, b, len => by
    unfold ap cn
    split
    · rw [ap_len l, Nat.zero_add]
    · rw [ap_len l]; omega
theorem cn_app : ∀ (l l2 : List Nat), cn (l ++ l2) = cn l + cn l2
  | [], l2 => by rw [List.nil_append, show cn [] = 0 from rfl, Nat.zero_add]
  | m :: l, l2 => by
    show (if m = 0 then 0 else 1) + cn (l ++ l2) = (if m = 0 then 0 else 1) + cn l + cn l2
    rw [cn_app l l2, Nat.add_assoc]
theorem cn_le : ∀ l : List Nat, cn l ≤ l.length
  | [] => Nat.le_refl _
  | m :: l => by
    have := cn_le l
    unfold cn
    rw [List.length_cons]
    split <;> omega
def b4 (x : Int32) : List Nat := [bq x 24, bq x 16, bq x 8, bq x 0]
section AP
variable {b : Nat → Nat} {len : Nat} {T : Tx} {M : Md}
theorem c63s (x a s : Int32) (hs : ¬ s < 0) {n : Nat} (ha : a = nI n) : G_63_5 x (a, s) = some (.inl (nI (n + if bq x s = 0 then 0 else 1), s + (-8))) := by
  simp only [G_63_5, J_63_5_j22]
  rw [if_neg hs, bq_n]
  have := bq_lt x s
  by_cases h : bq x s = 0
  · rw [if_pos (by rw [h]; rfl), if_pos h, ha, Nat.add_zero]
  · rw [if_neg (nI_ne0 (by omega) (by omega)), if_neg h, ha, z1, nI_add]
theorem c63 (x : Int32) : F_63 x = some (nI (cn (b4 x))) := by
  unfold F_63
  have e : lw (G_63_5 x) 200000 (0, 24) = some (nI (cn (b4 x))) := by
    refine (lw_one (k := 199999) (c63s x 0 24 (by decide) (n := 0) rfl)).trans ?_
    refine (lw_one (k := 199998) (c63s x _ (24 + (-8)) (by decide) rfl)).trans ?_
    refine (lw_one (k := 199997) (c63s x _ (24 + (-8) + (-8)) (by decide) rfl)).trans ?_
    refine (lw_one (k := 199996) (c63s x _ (24 + (-8) + (-8) + (-8)) (by decide) rfl)).trans ?_
    refine lw_end (k := 199995) ?_
    simp only [G_63_5]
    rw [if_pos (by decide)]
    congr 2
    show nI _ = nI (_ + (_ + (_ + (_ + 0))))
    congr 1
    rw [show (24 + (-8) : Int32) = 16 by decide, show (16 + (-8) : Int32) = 8 by decide, show (8 + (-8) : Int32) = 0 by decide]
    omega
  rw [e]
  rfl
theorem tx_byte (T : Tx) (f : Nat → Int32) (x : Int32) : ∃ y, (T.w_bytes f).w_length x = y ∧ y.bytes = f ∧ y.length = x := ⟨_, rfl, rfl, rfl⟩
theorem tx_bts (T : Tx) (f : Nat → Int32) : ∃ y, T.w_bytes f = y ∧ y.bytes = f ∧ y.length = T.length := ⟨_, rfl, rfl, rfl⟩
theorem tx_len (T : Tx) (x : Int32) : ∃ y, T.w_length x = y ∧ y.bytes = T.bytes ∧ y.length = x := ⟨_, rfl, rfl, rfl⟩
/-- one byte -/
theorem c64s (hT : TX b len T) (x s : Int32) (hs : ¬ s < 0) (h4 : len + cn [bq x s] ≤ 400) : ∃ T', G_64_3 x (s, T) = some (.inl (s + (-8), T')) ∧ TX (ap [bq x s] b len).1 (ap [bq x s] b len).2 T' := by
  have h256 := bq_lt x s
  obtain ⟨t1, t2, t3⟩ := hT
  simp only [G_64_3, J_64_3_j49]
  rw [if_neg hs, bq_n]
  unfold cn cn at h4
  unfold ap ap
  by_cases h : bq x s = 0
  · rw [if_pos (by rw [h]; rfl), if_pos h]
    exact ⟨T, rfl, t1, t2, t3⟩
  · rw [if_neg (nI_ne0 (by omega) (by omega)), if_neg h, t1, show (400 : Int32) = nI 400 from rfl, if_neg (nI_ge (by rw [if_neg h] at h4; omega) (by omega)), ixn (by rw [if_neg h] at h4; omega) (by omega), Option.bind_some]
    obtain ⟨Y, hY, y1, y2⟩ := tx_bts T (upd T.bytes len (nI (bq x s)))
    obtain ⟨Z, hZ, z1', z2'⟩ := tx_len Y (Y.length + 1)
    rw [hY, Option.bind_some, hZ, Option.bind_some]
    refine ⟨Z, rfl, by rw [z2', y2, t1, z1, nI_add], by rw [if_neg h] at h4; omega, fun i hi => ?_⟩
    rw [z1', y1]
    show upd T.bytes len (nI (bq x s)) i = nI (if i = len then bq x s else b i) ∧ (if i = len then bq x s else b i) < 256
    by_cases q : i = len
    · subst q
      rw [pk_us, if_pos rfl]
      exact ⟨rfl, h256⟩
    · rw [pk_un q, if_neg q]
      exact t3 i (by omega)
theorem c64 (hT : TX b len T) (x : Int32) (h4 : len + cn (b4 x) ≤ 400) : ∃ T', F_64 T x = some T' ∧ TX (ap (b4 x) b len).1 (ap (b4 x) b len).2 T' := by
  have g1 : b4 x = [bq x 24] ++ ([bq x 16] ++ ([bq x 8] ++ [bq x 0])) := rfl
  rw [g1] at h4 ⊢
  rw [cn_app, cn_app, cn_app] at h4
  obtain ⟨A, a1, a2⟩ := c64s hT x 24 (by decide) (by omega)
  obtain ⟨B, b1, b2⟩ := c64s a2 x 16 (by decide) (by rw [ap_len]; omega)
  obtain ⟨C, c1, c2⟩ := c64s b2 x 8 (by decide) (by rw [ap_len, ap_len]; omega)
  obtain ⟨D, d1, d2⟩ := c64s c2 x 0 (by decide) (by rw [ap_len, ap_len, ap_len]; omega)
  refine ⟨D, ?_, ?_⟩
  · unfold F_64
    have e : lw (G_64_3 x) 200000 (24, T) = some D := by
      refine (lw_one (k := 199999) a1).trans ?_
      rw [show (24 + (-8) : Int32) = 16 by decide]
      refine (lw_one (k := 199998) b1).trans ?_
      rw [show (16 + (-8) : Int32) = 8 by decide]
      refine (lw_one (k := 199997) c1).trans ?_
      rw [show (8 + (-8) : Int32) = 0 by decide]
      refine (lw_one (k := 199996) d1).trans ?_
      refine lw_end (k := 199995) ?_
      simp only [G_64_3]
      rw [if_pos (by decide)]
    rw [e]
    rfl
  · rw [ap_app, ap_app, ap_app]
    exact d2
/-- the model's bytes, one after the other -/
def sel (x1 x2 x3 x4 x5 : Int32) (i : Nat) : Int32 := if 4 ≤ i then (if 8 ≤ i then (if 12 ≤ i then (if 16 ≤ i then x5 else x4) else x3) else x2) else x1
def m20 (x1 x2 x3 x4 x5 : Int32) (i : Nat) : Nat := bq (sel x1 x2 x3 x4 x5 i) (nI (24 - 8 * (i % 4)))
def mls (m : Nat → Nat) : Nat → Nat → List Nat
  | _, 0 => []
  | i, f + 1 => m i :: mls m (i + 1) f
theorem m138 (x1 x2 x3 x4 x5 : Int32) {i : Nat} (hi : i < 20) : F_138 x1 x2 x3 x4 x5 (nI i) = some (nI (m20 x1 x2 x3 x4 x5 i)) := by
  have hj : ∀ y, J_138_0_j45 (nI i) y = some (nI (bq y (nI (24 - 8 * (i % 4))))) := by
    intro y
    unfold J_138_0_j45
    rw [show (4 : Int32) = nI 4 from rfl, pk_rem (by omega) (by decide) (by decide), show (8 : Int32) = nI 8 from rfl, pk_mul, show (24 : Int32) = nI 24 from rfl, pk_sub (by omega), bq_n]
  unfold F_138 m20 sel
  rw [show (4 : Int32) = nI 4 from rfl, show (8 : Int32) = nI 8 from rfl, show (12 : Int32) = nI 12 from rfl, show (16 : Int32) = nI 16 from rfl, hj, hj, hj, hj, hj]
  have kp : ∀ c : Nat, c ≤ i → nI c ≤ nI i := fun c h => nI_le h (by omega)
  have kn : ∀ c : Nat, i < c → c < 20 → ¬ nI c ≤ nI i := fun c h h2 => nI_ge h (by omega)
  by_cases a4 : 4 ≤ i
  · rw [if_pos (kp 4 a4), if_pos a4]
    by_cases a8 : 8 ≤ i
    · rw [if_pos (kp 8 a8), if_pos a8]
      by_cases a12 : 12 ≤ i
      · rw [if_pos (kp 12 a12), if_pos a12]
        by_cases a16 : 16 ≤ i
        · rw [if_pos (kp 16 a16), if_pos a16]
        · rw [if_neg (kn 16 (by omega) (by omega)), if_neg a16]
      · rw [if_neg (kn 12 (by omega) (by omega)), if_neg a12]
    · rw [if_neg (kn 8 (by omega) (by omega)), if_neg a8]
  · rw [if_neg (kn 4 (by omega) (by omega)), if_neg a4]
theorem m139c (x1 x2 x3 x4 x5 : Int32) (M : Md) : ∀ (f i a k : Nat), i + f = 20 → f < k → lw (G_139_11 M x1 x2 x3 x4 x5) k (nI a, nI i) = some (nI (a + cn (mls (m20 x1 x2 x3 x4 x5) i f)))
  | 0, i, a, k, h, hk => by
    obtain ⟨k, rfl⟩ : ∃ j, k = j + 1 := ⟨k - 1, by omega⟩
    refine lw_end ?_
    simp only [G_139_11]
    rw [show (20 : Int32) = nI 20 from rfl, if_pos (nI_le (by omega) (by omega))]
    rfl
  | f + 1, i, a, k, h, hk => by
    obtain ⟨k, rfl⟩ : ∃ j, k = j + 1 := ⟨k - 1, by omega⟩
    have hl := bq_lt (sel x1 x2 x3 x4 x5 i) (nI (24 - 8 * (i % 4)))
    have hl' : m20 x1 x2 x3 x4 x5 i < 256 := hl
    have st : G_139_11 M x1 x2 x3 x4 x5 (nI a, nI i) = some (.inl (nI (a + if m20 x1 x2 x3 x4 x5 i = 0 then 0 else 1), nI (i + 1))) := by
      simp only [G_139_11, J_139_11_j40]
      rw [show (20 : Int32) = nI 20 from rfl, if_neg (nI_ge (by omega) (by omega)), m138 x1 x2 x3 x4 x5 (by omega), Option.bind_some]
      by_cases q : m20 x1 x2 x3 x4 x5 i = 0
      · rw [if_pos (by rw [q]; rfl), if_pos q, z0, z1, nI_add, nI_add]
      · rw [if_neg (nI_ne0 (by omega) (by omega)), if_neg q, z1, nI_add, nI_add]
    rw [lw_one st, m139c x1 x2 x3 x4 x5 M f (i + 1) _ k (by omega) (by omega)]
    show some (nI (_ + cn (mls _ (i + 1) f))) = some (nI (a + ((if m20 x1 x2 x3 x4 x5 i = 0 then 0 else 1) + cn (mls _ (i + 1) f))))
    rw [Nat.add_assoc]
/-- all but the text -/
def MB (M M' : Md) : Prop := M'.now = M.now ∧ M'.saved = M.saved ∧ M'.history = M.history ∧ M'.entries = M.entries ∧ M'.reason = M.reason ∧ M'.isSaved = M.isSaved ∧ M'.thrown = M.thrown
theorem MB.tr {A B C : Md} (h : MB A B) (k : MB B C) : MB A C := by
  obtain ⟨a1, a2, a3, a4, a5, a6, a7⟩ := h
  obtain ⟨b1, b2, b3, b4, b5, b6, b7⟩ := k
  exact ⟨b1.trans a1, b2.trans a2, b3.trans a3, b4.trans a4, b5.trans a5, b6.trans a6, b7.trans a7⟩
theorem md_buf (M : Md) (f : Nat → Int32) : ∃ y, M.w_buffer f = y ∧ y.buffer = f ∧ y.length = M.length ∧ MB M y := ⟨_, rfl, rfl, rfl, rfl, rfl, rfl, rfl, rfl, rfl, rfl⟩
theorem md_len (M : Md) (x : Int32) : ∃ y, M.w_length x = y ∧ y.buffer = M.buffer ∧ y.length = x ∧ MB M y := ⟨_, rfl, rfl, rfl, rfl, rfl, rfl, rfl, rfl, rfl, rfl⟩
theorem m139l (x1 x2 x3 x4 x5 : Int32) : ∀ (f i k : Nat) (b : Nat → Nat) (len : Nat) (M : Md), i + f = 20 → f < k → MX b len M → len + cn (mls (m20 x1 x2 x3 x4 x5) i f) ≤ 400 →
    ∃ M', lw (G_139_80 x1 x2 x3 x4 x5) k (nI i, M) = some M' ∧ MX (ap (mls (m20 x1 x2 x3 x4 x5) i f) b len).1 (ap (mls (m20 x1 x2 x3 x4 x5) i f) b len).2 M' ∧ MB M M'
  | 0, i, k, b, len, M, h, hk, hM, h4 => by
    obtain ⟨k, rfl⟩ : ∃ j, k = j + 1 := ⟨k - 1, by omega⟩
    refine ⟨M, lw_end ?_, hM, rfl, rfl, rfl, rfl, rfl, rfl, rfl⟩
    simp only [G_139_80]
    rw [show (20 : Int32) = nI 20 from rfl, if_pos (nI_le (by omega) (by omega))]
  | f + 1, i, k, b, len, M, h, hk, hM, h4 => by
    obtain ⟨k, rfl⟩ : ∃ j, k = j + 1 := ⟨k - 1, by omega⟩
    have hl' : m20 x1 x2 x3 x4 x5 i < 256 := bq_lt (sel x1 x2 x3 x4 x5 i) (nI (24 - 8 * (i % 4)))
    have h4' : len + ((if m20 x1 x2 x3 x4 x5 i = 0 then 0 else 1) + cn (mls (m20 x1 x2 x3 x4 x5) (i + 1) f)) ≤ 400 := h4
    have ea : ap (mls (m20 x1 x2 x3 x4 x5) i (f + 1)) b len = if m20 x1 x2 x3 x4 x5 i = 0 then ap (mls (m20 x1 x2 x3 x4 x5) (i + 1) f) b len else ap (mls (m20 x1 x2 x3 x4 x5) (i + 1) f) (fun j => if j = len then m20 x1 x2 x3 x4 x5 i else b j) (len + 1) := rfl
    rw [ea]
    obtain ⟨t1, t2, t3⟩ := hM
    by_cases q : m20 x1 x2 x3 x4 x5 i = 0
    · rw [if_pos q] at h4' ⊢
      obtain ⟨M', e, r1, r2⟩ := m139l x1 x2 x3 x4 x5 f (i + 1) k b len M (by omega) (by omega) ⟨t1, t2, t3⟩ (by omega)
      refine ⟨M', (lw_one ?_).trans e, r1, r2⟩
      simp only [G_139_80, J_139_80_j127]
      rw [show (20 : Int32) = nI 20 from rfl, if_neg (nI_ge (by omega) (by omega)), m138 x1 x2 x3 x4 x5 (by omega), Option.bind_some, if_pos (by rw [q]; rfl), z1, nI_add]
    · rw [if_neg q] at h4' ⊢
      obtain ⟨Y, hY, y1, y2, y3⟩ := md_buf M (upd M.buffer len (nI (m20 x1 x2 x3 x4 x5 i)))
      obtain ⟨Z, hZ, z1', z2', z3'⟩ := md_len Y (Y.length + 1)
      have hZM : MX (fun j => if j = len then m20 x1 x2 x3 x4 x5 i else b j) (len + 1) Z := by
        refine ⟨by rw [z2', y2, t1, z1, nI_add], by omega, fun j hj => ?_⟩
        rw [z1', y1]
        show upd M.buffer len _ j = nI (if j = len then m20 x1 x2 x3 x4 x5 i else b j) ∧ (if j = len then m20 x1 x2 x3 x4 x5 i else b j) < 256
        by_cases r : j = len
        · subst r
          rw [pk_us, if_pos rfl]
          exact ⟨rfl, hl'⟩
        · rw [pk_un r, if_neg r]
          exact t3 j (by omega)
      obtain ⟨M', e, r1, r2⟩ := m139l x1 x2 x3 x4 x5 f (i + 1) k _ _ Z (by omega) (by omega) hZM (by omega)
      refine ⟨M', (lw_one ?_).trans e, r1, (y3.tr z3').tr r2⟩
      simp only [G_139_80, J_139_80_j127]
      rw [show (20 : Int32) = nI 20 from rfl, if_neg (nI_ge (by omega) (by omega)), m138 x1 x2 x3 x4 x5 (by omega), Option.bind_some, if_neg (nI_ne0 (by omega) (by omega)), t1, ixn (by omega) (by omega), Option.bind_some, hY, Option.bind_some, hZ, Option.bind_some]
      show some (Sum.inl (nI i + 1, Z)) = _
      rw [z1, nI_add]
end AP
