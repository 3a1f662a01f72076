/-! ===== THE SETUP TEXT: the vertices ===== -/
section PARSE
variable {b : Nat → Nat} {len : Nat} {T : Tx} {M : Md} {tg : Nat → Nat} {wt : Nat → Nat → Nat} {pr : Nat → Nat → Option Nat}
/-- what is read so far: the class's board, the model's row -/
def PR (n E : Nat) (pl : Nat → Nat) (sc : Nat) (tg : Nat → Nat) (wt : Nat → Nat → Nat) (pr : Nat → Nat → Option Nat) (B : Bd) (R : Nat → Int32) : Prop :=
  CB n E B ∧ CP pl B ∧ B.moveCount = 0 ∧ CS n sc tg wt pr B ∧ MR n E R ∧ MP pl R ∧ R 13 = 0 ∧ MS n sc tg wt pr R ∧ Gr n E ∧ SO n sc tg wt pr ∧ ∀ v, v < 6 → pl v ≤ 999
/-- both at the token behind `p`, nothing wrong -/
def PT (b : Nat → Nat) (len p : Nat) (T : Tx) (M : Md) : Prop := TX b len T ∧ MX b len M ∧ p ≤ len ∧ CT b len p T ∧ MK2 b len p M ∧ M.wrong = -1
/-- both found a fault at the same place -/
def PB (len : Nat) (T : Tx) (M : Md) : Prop := ∃ e, e ≤ len ∧ T.start = nI e ∧ M.wrong = nI e
/-- what neither changes -/
def PF (T T' : Tx) (M M' : Md) : Prop := T'.length = T.length ∧ T'.bytes = T.bytes ∧ MF M M'
theorem tx_draft (T : Tx) (x : Bd) : ∃ y, T.w_draft x = y ∧ y.start = T.start ∧ y.stop = T.stop ∧ y.kind = T.kind ∧ y.value = T.value ∧ y.length = T.length ∧ y.bytes = T.bytes ∧ y.draft = x := ⟨_, rfl, rfl, rfl, rfl, rfl, rfl, rfl, rfl⟩
theorem p73 {p : Nat} (hP : PT b len p T M) (h1 : MR 1 0 M.read) (h2 : MP (fun _ => 0) M.read) (h3 : MS 1 0 tg wt pr M.read) (h4 : M.read 13 = 0) :
    ∃ r T' M', F_73 T = some (bI r, T') ∧ F_156 M = some M' ∧ PF T T' M M' ∧ ((r = true ∧ ∃ n p', PT b len p' T' M' ∧ PR n 0 (fun _ => 0) 0 tg wt pr T'.draft M'.read) ∨ (r = false ∧ PB len T' M')) := by
  obtain ⟨hT, hM, hp, hC, hK, hw⟩ := hP
  have k1 := tE_le (b := b) hp
  have k0 := tS_le (b := b) hp
  have l4 := hM.2.1
  have e1 := c68 hT (k := 0) (by decide) hp hC
  have e2 := m147 hM (k := 0) (by decide) hp hK hw
  cases hwd : wd 0 b len p with
  | false =>
    rw [hwd] at e1 e2
    obtain ⟨y, hy, y1, y2, y3, y4, y5, y6, y7⟩ := md_wrong M (nI (tS b len p))
    refine ⟨false, T, y, ?_, ?_, ⟨rfl, rfl, y7⟩, .inr ⟨rfl, tS b len p, k0.2, hC.1, y6⟩⟩
    · unfold F_73
      rw [e1, Option.bind_some, if_neg (by decide)]
      rfl
    · unfold F_156
      rw [e2, Option.bind_some, if_neg (by decide), m145g hw hK.1, Option.bind_some, hy]
  | true =>
    rw [hwd] at e1 e2
    obtain ⟨T2, t1, t2, t3⟩ := c66 hT k1.2 hC.2.1
    obtain ⟨M2, m1, m2, m3⟩ := m144 hM k1.2 hK.2.1
    have hT2 := hT.of t3
    have hM2 := hM.of m3.1
    have hw2 : M2.wrong = -1 := m3.2.2.trans hw
    have e3 : F_69 T2 1 6 = some (bI (ism 1 6 b len (tE b len p))) := c69 (lo := 1) (hi := 6) k1.2 t2 (by decide) (by decide)
    have k2 := tE_le (b := b) k1.2
    have k3 := tS_le (b := b) k1.2
    cases his : ism 1 6 b len (tE b len p) with
    | false =>
      rw [his] at e3
      obtain ⟨M3, g1, g2, g3, g4, g5⟩ := m149b (lo := 1) (hi := 6) hM2 k1.2 m2 hw2 (by decide) (by decide) his
      obtain ⟨Y, hY, y1, y2, y3, y4, y5, y6, y7⟩ := md_read M3 (upd M3.read 0 (nI 1))
      refine ⟨false, T2, Y, ?_, ?_, ⟨t3.1, t3.2.1, (m3.1.tr g5).tr y7⟩, .inr ⟨rfl, tS b len (tE b len p), k3.2, t2.1, y6.trans g2⟩⟩
      · unfold F_73
        rw [e1, Option.bind_some, if_pos (by decide), t1, Option.bind_some, e3, Option.bind_some, if_neg (by decide)]
        rfl
      · unfold F_156
        have g1' : F_149 M2 1 6 = some (nI 1, M3) := g1
        rw [e2, Option.bind_some, if_pos (by decide), m1, Option.bind_some, g1', Option.bind_some]
        show (ix 0 93).bind _ = _
        rw [show ix 0 93 = some 0 from rfl, Option.bind_some, hY]
        rfl
    | true =>
      rw [his] at e3
      obtain ⟨q1, q2, q3, q4⟩ := of_decide_eq_true his
      obtain ⟨M3, g1, g2, g3⟩ := m149g (lo := 1) (hi := 6) hM2 k1.2 m2 hw2 (by decide) (by decide) his
      have hv : T2.value = nI (tN b len (tE b len p)) := by rw [t2.2.2.2.1 q1, if_pos q2]
      generalize tN b len (tE b len p) = n at *
      obtain ⟨B, c1', c2, c3, c4, c5⟩ := c1 (n := n) (tg := tg) (wt := wt) (pr := pr) T2.draft
      obtain ⟨T3, hT3, u1, u2, u3, u4, u5, u6, u7⟩ := tx_draft T2 B
      have hT3x : TX b len T3 := ⟨u5.trans hT2.1, hT2.2.1, fun i hi => by rw [u6]; exact hT2.2.2 i hi⟩
      obtain ⟨T4, t4, t5, t6⟩ := c66 hT3x k2.2 (u2.trans t2.2.1)
      obtain ⟨Y, hY, y1, y2, y3, y4, y5, y6, y7⟩ := md_read M3 (upd M3.read 0 (nI n))
      have rd : M3.read = M.read := g3.2.1.trans m3.2.1
      have rY : ∀ j, ¬ j = 0 → Y.read j = M.read j := fun j hj => by rw [y5, pk_un hj, rd]
      refine ⟨true, T4, Y, ?_, ?_, ⟨t6.1.trans (u5.trans t3.1), t6.2.1.trans (u6.trans t3.2.1), (m3.1.tr g3.1).tr y7⟩, .inl ⟨rfl, n, tE b len (tE b len p), ⟨hT3x.of t6, (hM2.of g3.1).of y7, k2.2, t5, ⟨y2.trans g2.1, y1.trans g2.2.1, y3.trans g2.2.2.1, fun z => by rw [y4]; exact g2.2.2.2 z⟩, y6.trans (g3.2.2.trans hw2)⟩, ?_⟩⟩
      · unfold F_73
        rw [e1, Option.bind_some, if_pos (by decide), t1, Option.bind_some, e3, Option.bind_some, if_pos (by decide), hv, c1', Option.bind_some, hT3, Option.bind_some, t4]
        rfl
      · unfold F_156
        have g1' : F_149 M2 1 6 = some (nI n, M3) := g1
        rw [e2, Option.bind_some, if_pos (by decide), m1, Option.bind_some, g1', Option.bind_some]
        show (ix 0 93).bind _ = _
        rw [show ix 0 93 = some 0 from rfl, Option.bind_some, hY]
        rfl
      · have dr : T4.draft = B := t6.2.2.trans u7
        unfold PR
        rw [dr]
        exact ⟨c2, c3, c4, c5, ⟨by rw [y5, pk_us], fun v hv => by rw [rY _ (by omega)]; exact h1.2 v hv⟩, fun v hv => by rw [rY _ (by omega)]; exact h2 v hv, by rw [rY _ (by decide)]; exact h4, ⟨by rw [rY _ (by decide)]; exact h3.1, fun k hk => absurd hk (Nat.not_lt_zero _)⟩, Gr.zero q3 q4, ⟨by decide, fun k hk => absurd hk (Nat.not_lt_zero _)⟩, fun _ _ => Nat.zero_le _⟩
end PARSE
