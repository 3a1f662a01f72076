/-! ===== A TEXT TYPED INTO THE CLASS ===== -/
/-- the bytes of a list -/
def bf (l : List Nat) : Nat → Nat := fun i => l.getD i 0
/-- a is a text of these bytes -/
def TO (W : Wd) (a : Nat) (l : List Nat) : Prop := (∀ i, l.getD i 0 < 128) ∧ (∀ i, i < l.length → 0 < l.getD i 0) ∧ l.length ≤ 400 ∧ W.rs a = some () ∧ W.gI a 8 1 = some 0 ∧ ∃ va, W.gR a 8 0 = some va ∧ W.ln va = some (nI l.length) ∧ ∀ i, i < l.length → W.aB va (nI i) = some (nI (l.getD i 0))
section TYPE
variable {W W' : Wd} {a : Nat} {l : List Nat}
theorem TO.cong (h : TO W a l) (k : W'.cl = W.cl) : TO W' a l := by
  obtain ⟨h1, h2, h3, h4, h5, va, h6, h7, h8⟩ := h
  have g : ∀ a ci i, W'.gv a ci i = W.gv a ci i := fun a ci i => by unfold Wd.gv; rw [k]
  have c : ∀ a ci, W'.rc a ci = W.rc a ci := fun a ci => by unfold Wd.rc; rw [k]
  refine ⟨h1, h2, h3, ?_, ?_, va, ?_, ?_, fun i hi => ?_⟩
  · rw [← h4]; unfold Wd.rs; rw [c]
  · rw [← h5]; unfold Wd.gI; rw [g]
  · rw [← h6]; unfold Wd.gR; rw [g]
  · rw [← h7]; unfold Wd.ln; rw [k]
  · rw [← h8 i hi]; unfold Wd.aB; rw [k]
theorem nb0 : narrow .byte (.int 0) = .int 0 := by decide +kernel
theorem f257 (h : TO W a l) : F_257 W a = some 0 := by
  obtain ⟨h1, h2, h3, h4, h5, va, h6, h7, h8⟩ := h
  unfold F_257 J_257_0_j14
  rw [if_neg (by decide), h5, Option.bind_some, if_pos nb0, Option.bind_some]
theorem shr0 {n : Nat} (hn : n < 2 ^ 31) : nI n >>> (0 &&& 31) = nI n := shr_n (k := 0) hn (by decide)
theorem f255 (h : TO W a l) : F_255 W a = some (nI l.length) := by
  have e := f257 h
  obtain ⟨h1, h2, h3, h4, h5, va, h6, h7, h8⟩ := h
  unfold F_255
  rw [h6, Option.bind_some, h7, Option.bind_some, h4, Option.bind_some, e, Option.bind_some, shr0 (by omega)]
theorem chr_ok : ∀ c, c < 128 → ((nI c &&& 255).toUInt32 % 65536).toInt32 = nI c ∧ narrow .char (.int (nI c)) = .int (nI c) := by decide +kernel
theorem f256 (h : TO W a l) {i : Nat} (hi : i < l.length) : F_256 W a (nI i) = some (nI (l.getD i 0)) := by
  obtain ⟨h1, h2, h3, h4, h5, va, h6, h7, h8⟩ := h
  obtain ⟨c1, c2⟩ := chr_ok _ (h1 i)
  have e258 : F_258 W a = some 1 := by
    unfold F_258 J_258_0_j18
    rw [if_neg (by decide), h5, Option.bind_some, if_neg (fun z => z rfl), if_pos (.inr rfl), Option.bind_some]
  have e259 : F_259 W (nI i) (nI l.length) = some () := by
    unfold F_259 F_262
    rw [if_neg (show ¬ nI i < 0 from nI_nlt (b := 0) (Nat.zero_le _) (by omega)), if_pos (nI_lt hi (by omega)), Option.bind_some]
  unfold F_256 F_260
  rw [h4, Option.bind_some, e258, Option.bind_some, if_neg (show ¬ (1 : Int32) = 0 by decide), h6, Option.bind_some, h7, Option.bind_some, e259, Option.bind_some, h8 i hi, Option.bind_some, c1, if_pos c2, Option.bind_some, Option.bind_some, if_pos c2, Option.bind_some]
/-- the first i of four bytes, as one number -/
def fv (l : List Nat) (k : Nat) : Nat → Nat
  | 0 => 0
  | i + 1 => 256 * fv l k i + l.getD (k + i) 0
theorem r369_24 (h : TO W a l) {k : Nat} (hk : k < 1000) : lw (G_369_24 W a (nI k)) 200000 (0, 0) = some (nI (fv l k 4)) := by
  have h1 := h.1
  have h3 := h.2.2.1
  have h4 := h.2.2.2.1
  refine lw_seq (fun i => (nI (fv l k i), nI i)) (n := 4) (fun i hi => ?_) ?_ (by omega)
  · have e0 : nI (fv l k i) <<< (8 &&& 31) = nI (2 ^ 8 * fv l k i) := by
      have q : nI (fv l k i) <<< (8 &&& 31) = nI (fv l k i <<< 8) := shl_n (fv l k i) (k := 8) (by decide)
      rw [q, Nat.shiftLeft_eq, Nat.mul_comm]
    have hc := h1 (k + i)
    have e1 : (nI (fv l k i) <<< (8 &&& 31)) ||| nI (l.getD (k + i) 0) = nI (fv l k (i + 1)) := by
      rw [e0, fa_or_sum (k := 8) (fv l k i) (show l.getD (k + i) 0 < 2 ^ 8 by omega)]
      rfl
    unfold G_369_24
    dsimp only
    rw [if_neg (show ¬ 4 ≤ nI i from nI_ge (b := 4) hi (by omega)), h4, Option.bind_some, f255 h, Option.bind_some, nI_add]
    by_cases q : k + i < l.length
    · rw [if_neg (nI_ge q (by omega)), Option.bind_some, f256 h q, Option.bind_some]
      unfold J_369_24_j58
      rw [e1, nI_1]
    · rw [if_pos (nI_le (by omega) (by omega))]
      unfold J_369_24_j58
      have e2 : l.getD (k + i) 0 = 0 := by rw [List.getD_eq_getElem?_getD, List.getElem?_eq_none (by omega)]; rfl
      rw [e2] at e1
      have e1 : (nI (fv l k i) <<< (8 &&& 31)) ||| 0 = nI (fv l k (i + 1)) := e1
      rw [e1, nI_1]
  · unfold G_369_24
    dsimp only
    rw [if_pos (show 4 ≤ nI 4 from nI_le (Nat.le_refl _) (by omega))]
theorem bq_nI {v s : Nat} (hv : v < 2 ^ 31) (hs : s < 32) : bq (nI v) (nI s) = v / 2 ^ s % 256 := by
  unfold bq
  rw [shr_n hv hs, show (255 : Int32) = nI (2 ^ 8 - 1) from rfl, fa_mask, Nat.shiftRight_eq_div_pow]
  show (BitVec.ofNat 32 _).toNat = _
  rw [BitVec.toNat_ofNat, Nat.mod_eq_of_lt (by have := Nat.mod_lt (v / 2 ^ s) (show 0 < 2 ^ 8 by decide); omega)]
theorem b4_fv (h : ∀ i, l.getD i 0 < 128) (k : Nat) : b4 (nI (fv l k 4)) = [l.getD k 0, l.getD (k + 1) 0, l.getD (k + 2) 0, l.getD (k + 3) 0] := by
  have q0 := h (k + 0)
  have q1 := h (k + 1)
  have q2 := h (k + 2)
  have q3 := h (k + 3)
  have e1 : fv l k 4 = 256 * (256 * (256 * (256 * 0 + l.getD (k + 0) 0) + l.getD (k + 1) 0) + l.getD (k + 2) 0) + l.getD (k + 3) 0 := rfl
  have hv : fv l k 4 < 2 ^ 31 := by rw [e1]; omega
  have a1 : bq (nI (fv l k 4)) 24 = l.getD k 0 := by
    rw [show (24 : Int32) = nI 24 from rfl, bq_nI hv (by decide), e1]
    simp only [Nat.add_zero] at q0 ⊢
    omega
  have a2 : bq (nI (fv l k 4)) 16 = l.getD (k + 1) 0 := by
    rw [show (16 : Int32) = nI 16 from rfl, bq_nI hv (by decide), e1]
    omega
  have a3 : bq (nI (fv l k 4)) 8 = l.getD (k + 2) 0 := by
    rw [show (8 : Int32) = nI 8 from rfl, bq_nI hv (by decide), e1]
    omega
  have a4 : bq (nI (fv l k 4)) 0 = l.getD (k + 3) 0 := by
    rw [show (0 : Int32) = nI 0 from rfl, bq_nI hv (by decide), e1]
    omega
  unfold b4
  rw [a1, a2, a3, a4]
theorem b4_0 : b4 0 = [0, 0, 0, 0] := by decide +kernel
theorem ap_0 (b : Nat → Nat) (len : Nat) : ∀ k, ap (List.replicate k 0) b len = (b, len)
  | 0 => rfl
  | k + 1 => by
    rw [List.replicate_succ, ap, if_pos rfl, ap_0 b len k]
theorem TX.eq {b b' : Nat → Nat} {len : Nat} {T : Tx} (h : TX b len T) (k : ∀ i, i < len → b' i = b i) : TX b' len T := ⟨h.1, h.2.1, fun i hi => by rw [k i hi]; exact h.2.2 i hi⟩
/-- four bytes of the list laid behind those before -/
theorem ap_bf (h2 : ∀ i, i < l.length → 0 < l.getD i 0) : ∀ (m k : Nat) (b : Nat → Nat), (∀ i, i < k → b i = bf l i) → k ≤ l.length →
    (∀ i, i < min (k + m) l.length → (ap ((List.range' k m).map (bf l)) b k).1 i = bf l i) ∧ (ap ((List.range' k m).map (bf l)) b k).2 = min (k + m) l.length
  | 0, k, b, hb, hk => by
    refine ⟨fun i hi => hb i (by omega), ?_⟩
    show k = _
    omega
  | m + 1, k, b, hb, hk => by
    rw [List.range'_succ, List.map_cons, ap]
    by_cases q : k < l.length
    · have hp : ¬ bf l k = 0 := by have := h2 k q; unfold bf; omega
      rw [if_neg hp]
      have ih := ap_bf h2 m (k + 1) (fun j => if j = k then bf l k else b j) (fun i hi => by
        show (if i = k then bf l k else b i) = bf l i
        by_cases z : i = k
        · rw [if_pos z, z]
        · rw [if_neg z]; exact hb i (by omega)) q
      rw [show k + 1 + m = k + (m + 1) by omega] at ih
      exact ih
    · have hz : ∀ j, k ≤ j → bf l j = 0 := fun j hj => by unfold bf; rw [List.getD_eq_getElem?_getD, List.getElem?_eq_none (by omega)]; rfl
      rw [if_pos (hz k (Nat.le_refl _))]
      have e : (List.range' (k + 1) m).map (bf l) = List.replicate m 0 := by
        apply List.ext_getElem?
        intro i
        rw [List.getElem?_map, List.getElem?_replicate]
        by_cases hi : i < m
        · rw [List.getElem?_range' hi, if_pos hi]
          show some (bf l _) = _
          rw [hz _ (by omega)]
        · rw [if_neg hi, List.getElem?_eq_none (by rw [List.length_range']; omega)]
          rfl
      rw [e, ap_0]
      refine ⟨fun i hi => hb i (by omega), ?_⟩
      show k = _
      omega
/-- the bytes typed, as many as there are -/
theorem yType (h : TO W a l) (hi : ∃ b len, TX b len W.inp) : ∃ o, F_369 W a = some (1, W.w_inp o) ∧ TX (bf l) l.length o := by
  have h1 := h.1
  have h2 := h.2.1
  have h3 := h.2.2.1
  have hr := h.2.2.2.1
  obtain ⟨o0, ho0⟩ : ∃ o0, W.inp.w_length 0 = o0 := ⟨_, rfl⟩
  have t0 : TX (bf l) 0 o0 := ⟨by rw [← ho0]; rfl, by decide, fun i hi => absurd hi (Nat.not_lt_zero _)⟩
  have main : ∃ x, lw (G_369_10 a) 200000 (0, 0, W.w_inp o0) = some x ∧ ∃ o, x = (nI l.length, W.w_inp o) ∧ TX (bf l) l.length o := by
    refine lw_while (fun s => ∃ k o, s = (nI (min k l.length), nI k, W.w_inp o) ∧ k ≤ l.length + 3 ∧ TX (bf l) (min k l.length) o) (fun s => l.length + 4 - s.2.1.toInt.toNat) ?_ ⟨0, o0, by rw [Nat.zero_min]; rfl, by omega, by rw [Nat.zero_min]; exact t0⟩ (by show l.length + 4 - _ < 200000; omega)
    rintro s ⟨k, o, rfl, hk, ht⟩
    have hT : TO (W.w_inp o) a l := h.cong (cl_dyn rfl)
    have ek : (nI k).toInt.toNat = k := by rw [(nI_cl (n := k) (by omega)).2]; rfl
    unfold G_369_10
    dsimp only
    rw [hT.2.2.2.1, Option.bind_some, f255 hT, Option.bind_some]
    by_cases q : k < l.length
    · left
      have mk : min k l.length = k := by omega
      rw [mk] at ht
      have ea : ap (l20 (nI (fv l k 4)) 0 0 0 0) (bf l) k = ap ((List.range' k 4).map (bf l)) (bf l) k := by
        unfold l20
        rw [b4_fv h1, b4_0, ap_app]
        have e4 : ([l.getD k 0, l.getD (k + 1) 0, l.getD (k + 2) 0, l.getD (k + 3) 0] : List Nat) = (List.range' k 4).map (bf l) := rfl
        rw [e4]
        exact ap_0 _ _ 16
      obtain ⟨a1, a2⟩ := ap_bf h2 4 k (bf l) (fun i _ => rfl) (by omega)
      have ec : k + cn (l20 (nI (fv l k 4)) 0 0 0 0) = min (k + 4) l.length := by rw [← ap_len _ (bf l), ea, a2]
      rcases c80 (W := W.w_inp o) ht (nI (fv l k 4)) 0 0 0 0 with ⟨-, o', e80, t'⟩ | ⟨g, -⟩
      · rw [ec] at e80 t'
        rw [ea] at t'
        refine ⟨(nI (min (k + 4) l.length), nI (k + 4), W.w_inp o'), ?_, ⟨k + 4, o', rfl, by omega, t'.eq fun i hi => (a1 i hi).symm⟩, ?_⟩
        · have e367 : F_367 (W.w_inp o) (nI (fv l k 4)) = some (nI (min (k + 4) l.length), W.w_inp o') := by
            unfold F_367
            rw [e80, Option.bind_some]
            dsimp only
            rw [xq_l]
            rfl
          rw [if_neg (nI_ge q (by omega)), r369_24 hT (by omega), Option.bind_some, e367, Option.bind_some]
          dsimp only
          rw [z4, nI_add]
        · show l.length + 4 - (nI (k + 4)).toInt.toNat < l.length + 4 - (nI k).toInt.toNat
          rw [ek, (nI_cl (n := k + 4) (by omega)).2]
          show l.length + 4 - (k + 4) < _
          omega
      · rw [ec] at g
        omega
    · right
      have mk : min k l.length = l.length := by omega
      rw [mk] at ht
      refine ⟨_, if_pos (nI_le (by omega) (by omega)), o, by rw [mk], ht⟩
  obtain ⟨x, e1, o, rfl, ht⟩ := main
  refine ⟨o, ?_, ht⟩
  have hT : TO (W.w_inp o) a l := h.cong (cl_dyn rfl)
  have e81 : F_81 W 0 = some (.inl 0, W.w_inp o0) := by
    unfold F_81
    rw [if_neg (by decide)]
    obtain ⟨b, len, hl⟩ := hi
    rw [if_pos (show (0 : Int32) ≤ W.inp.length by rw [hl.1]; exact nI_le (a := 0) (Nat.zero_le _) (by have := hl.2.1; omega)), ho0]
    rfl
  unfold F_369 J_369_0_j93
  rw [e81, Option.bind_some]
  dsimp only
  rw [xq_l, e1, Option.bind_some]
  dsimp only
  rw [hT.2.2.2.1, Option.bind_some, f255 hT, Option.bind_some, if_neg (fun z => z rfl), if_pos (.inr rfl), Option.bind_some]
end TYPE
