/-! ===== THE YARD'S TEXT IS VALID, AND TELLS THE YARD ===== -/
theorem E_ext {E E' : Nat} (h : ∀ x y, y < 6 → (ad E x y = true ↔ ad E' x y = true)) : E = E' := bit_ext fun i => by
  have q := bl_tr (h (i / 6) (i % 6) (Nat.mod_lt _ (by decide)))
  unfold ad at q
  rw [Nat.div_add_mod] at q
  exact q
theorem nx_d {v o : Nat} : nx (xEd v o) := .inr (.inl ⟨_, by unfold xEd; rw [e24]; rfl⟩)
theorem nx_p {v k : Nat} : nx (xPi v k) := .inr (.inr ⟨_, by unfold xPi; rw [e25]; rfl⟩)
theorem nx_Es {E v : Nat} : ∀ o, nx (xEs E v o)
  | 0 => .inl rfl
  | o + 1 => by
    rw [xEs]
    refine nx_app (nx_Es o) ?_
    split
    · exact nx_d
    · exact .inl rfl
theorem nx_EA {E : Nat} : ∀ v, nx (xEA E v)
  | 0 => .inl rfl
  | v + 1 => by
    rw [xEA]
    exact nx_app (nx_EA v) (nx_Es v)
theorem nx_PA {pl : Nat → Nat} : ∀ v, nx (xPA pl v)
  | 0 => .inl rfl
  | v + 1 => by
    rw [xPA]
    refine nx_app (nx_PA v) ?_
    split
    · exact .inl rfl
    · exact nx_p
theorem nx_S1 {t : Nat} {s : List Nat} : nx (txl 26 ++ (dgt t ++ s)) := .inr (.inl ⟨_, by rw [e26]; rfl⟩)
theorem nx_SA {Q : Ps} : ∀ k, nx (xSA Q k)
  | 0 => .inl rfl
  | k + 1 => by
    rw [xSA]
    exact nx_app (nx_SA k) nx_S1
/-- edges read so far -/
def EP (v o x y : Nat) : Prop := (x < v ∧ y < v) ∨ (x = v ∧ y < o) ∨ (y = v ∧ x < o)
section TT
variable {l : List Nat} {p n E : Nat} {Q : Ps}
theorem tt_Es {v E0 : Nat} (hG : Gr n E) (hv : v < n) (hG0 : Gr n E0) (h0 : ∀ x y, y < 6 → (ad E0 x y = true ↔ ad E x y = true ∧ EP v 0 x y)) : ∀ (o : Nat) (r : List Nat), o ≤ v → nx r → Lx l p (xEs E v o ++ r) → ∃ c p' E', (∀ f, sAll (bf l) l.length (f + c) p ((Qn n).wE E0) = sAll (bf l) l.length f p' ((Qn n).wE E')) ∧ Lx l p' r ∧ p + c ≤ p' ∧ Gr n E' ∧ ∀ x y, y < 6 → (ad E' x y = true ↔ ad E x y = true ∧ EP v o x y)
  | 0, r, _, _, h => ⟨0, p, E0, fun _ => rfl, h, Nat.le_refl _, hG0, h0⟩
  | o + 1, r, ho, hr, h => by
    have hn := hG.2.1
    rw [xEs, List.append_assoc] at h
    cases had : ad E v o with
    | false =>
      rw [had, if_neg (by decide), List.nil_append] at h
      obtain ⟨c, p', E', e1, h1, hc, g1, k1⟩ := tt_Es hG hv hG0 h0 o r (by omega) hr h
      refine ⟨c, p', E', e1, h1, hc, g1, fun x y hy => ?_⟩
      rw [k1 x y hy]
      refine ⟨fun ⟨q1, q2⟩ => ⟨q1, by unfold EP at q2 ⊢; omega⟩, fun ⟨q1, q2⟩ => ⟨q1, ?_⟩⟩
      unfold EP at q2 ⊢
      rcases q2 with q2 | ⟨q2, q3⟩ | ⟨q2, q3⟩
      · exact .inl q2
      · by_cases z : y = o
        · rw [q2, z, had] at q1; cases q1
        · exact .inr (.inl ⟨q2, by omega⟩)
      · by_cases z : x = o
        · have := hG.sym (show y < n by omega) q1
          rw [q2, z, had] at this; cases this
        · exact .inr (.inr ⟨q2, by omega⟩)
    | true =>
      rw [had, if_pos rfl] at h
      obtain ⟨c, p', E', e1, h1, hc, g1, k1⟩ := tt_Es hG hv hG0 h0 o _ (by omega) (nx_app nx_d hr) h
      have hno : ad E' v o = false := by
        cases z : ad E' v o with
        | false => rfl
        | true =>
          obtain ⟨-, q⟩ := (k1 v o (by omega)).1 z
          unfold EP at q
          omega
      obtain ⟨p2, e2, h2, hc2⟩ := st_e (Q := (Qn n).wE E') h1 hr hn hv (show o < n by omega) (by omega) hno
      refine ⟨c + 1, p2, ae E' v o, fun f => ?_, h2, by omega, g1.ae hv (by omega) (by omega), fun x y hy => ?_⟩
      · rw [show f + (c + 1) = (f + 1) + c by omega, e1, e2]
        rfl
      · rw [ae_ad (by omega) (by omega) hy, Bool.or_eq_true, Bool.or_eq_true, decide_eq_true_iff, decide_eq_true_iff, k1 x y hy]
        constructor
        · rintro (⟨q1, q2⟩ | ⟨rfl, rfl⟩ | ⟨rfl, rfl⟩)
          · exact ⟨q1, by unfold EP at q2 ⊢; omega⟩
          · exact ⟨had, .inr (.inl ⟨rfl, by omega⟩)⟩
          · exact ⟨hG.sym (by omega) had, .inr (.inr ⟨rfl, by omega⟩)⟩
        · rintro ⟨q1, q2⟩
          by_cases q3 : EP v o x y
          · exact .inl ⟨q1, q3⟩
          · right
            unfold EP at q2 q3
            by_cases z : x = v ∧ y = o
            · exact .inl z
            · right
              omega
theorem tt_EA (hG : Gr n E) : ∀ (v : Nat) (r : List Nat), v ≤ n → nx r → Lx l p (xEA E v ++ r) → ∃ c p' E', (∀ f, sAll (bf l) l.length (f + c) p (Qn n) = sAll (bf l) l.length f p' ((Qn n).wE E')) ∧ Lx l p' r ∧ p + c ≤ p' ∧ Gr n E' ∧ ∀ x y, y < 6 → (ad E' x y = true ↔ ad E x y = true ∧ x < v ∧ y < v)
  | 0, r, _, _, h => ⟨0, p, 0, fun _ => rfl, h, Nat.le_refl _, gr_none hG.1 hG.2.1, fun x y _ => by
    rw [ad_0]
    refine ⟨fun z => (by cases z), fun z => absurd z.2.1 (Nat.not_lt_zero _)⟩⟩
  | v + 1, r, hv, hr, h => by
    rw [xEA, List.append_assoc] at h
    obtain ⟨c, p', E', e1, h1, hc, g1, k1⟩ := tt_EA hG v _ (by omega) (nx_app (nx_Es v) hr) h
    obtain ⟨c2, p2, E2, e2, h2, hc2, g2, k2⟩ := tt_Es hG (show v < n by omega) g1 (fun x y hy => by
      rw [k1 x y hy]
      refine ⟨fun ⟨a, b⟩ => ⟨a, .inl b⟩, fun ⟨a, b⟩ => ⟨a, ?_⟩⟩
      unfold EP at b
      omega) v r (Nat.le_refl _) hr h1
    refine ⟨c2 + c, p2, E2, fun f => ?_, h2, by omega, g2, fun x y hy => ?_⟩
    · rw [← Nat.add_assoc, e1, e2]
    · rw [k2 x y hy]
      refine ⟨fun ⟨a, b⟩ => ⟨a, by unfold EP at b; omega⟩, fun ⟨a, b⟩ => ⟨a, ?_⟩⟩
      have hn := hG.2.1
      have hne : ¬ x = y := hG.ne (show y < n by omega) a
      unfold EP
      omega
theorem tt_PA {pl : Nat → Nat} {Q0 : Ps} (h8 : ∀ v, pl v ≤ 8) (hn : Q0.n ≤ 6) (h0 : ∀ x, Q0.pl x = 0) : ∀ (v : Nat) (r : List Nat), v ≤ Q0.n → nx r → Lx l p (xPA pl v ++ r) → ∃ c p' pl', (∀ f, sAll (bf l) l.length (f + c) p Q0 = sAll (bf l) l.length f p' (Q0.wp pl')) ∧ Lx l p' r ∧ p + c ≤ p' ∧ ∀ x, pl' x = if x < v then pl x else 0
  | 0, r, _, _, h => ⟨0, p, Q0.pl, fun _ => rfl, h, Nat.le_refl _, fun x => by rw [if_neg (Nat.not_lt_zero _), h0]⟩
  | v + 1, r, hv, hr, h => by
    rw [xPA, List.append_assoc] at h
    have h8v := h8 v
    by_cases hz : pl v = 0
    · rw [if_pos hz, List.nil_append] at h
      obtain ⟨c, p', pl', e1, h1, hc, k1⟩ := tt_PA h8 hn h0 v r (by omega) hr h
      refine ⟨c, p', pl', e1, h1, hc, fun x => ?_⟩
      rw [k1 x]
      by_cases q : x = v
      · rw [q, if_neg (Nat.lt_irrefl v), if_pos (Nat.lt_succ_self v), hz]
      · by_cases q2 : x < v
        · rw [if_pos q2, if_pos (by omega)]
        · rw [if_neg q2, if_neg (by omega)]
    · rw [if_neg hz] at h
      obtain ⟨c, p', pl', e1, h1, hc, k1⟩ := tt_PA h8 hn h0 v _ (by omega) (nx_app nx_p hr) h
      obtain ⟨p2, e2, h2, hc2⟩ := st_p (Q := Q0.wp pl') h1 hr hn (show v < Q0.n by omega) (by omega)
      refine ⟨c + 1, p2, upl pl' v (pl v), fun f => ?_, h2, by omega, fun x => ?_⟩
      · rw [show f + (c + 1) = (f + 1) + c by omega, e1, e2]
        rfl
      · unfold upl
        by_cases q : x = v
        · rw [if_pos q, if_pos (by omega), q]
        · rw [if_neg q, k1 x]
          by_cases q2 : x < v
          · rw [if_pos q2, if_pos (by omega)]
          · rw [if_neg q2, if_neg (by omega)]
/-- strategies read so far -/
def rS (Q0 Q : Ps) (k : Nat) (R : Ps) : Prop := R.n = Q0.n ∧ R.E = Q0.E ∧ R.pl = Q0.pl ∧ R.mc = Q0.mc ∧ R.sc = k ∧ ∀ i, i < k → R.tg i = Q.tg i ∧ ∀ x, x < Q.n → R.wt i x = Q.wt i x ∧ R.pr i x = Q.pr i x
theorem tt_SA {Q0 : Ps} (hT : TP Q) (hn0 : Q0.n = Q.n) (hs0 : Q0.sc = 0) : ∀ (k : Nat) (r : List Nat), k ≤ Q.sc → nx r → Lx l p (xSA Q k ++ r) → ∃ c p' R, (∀ f, sAll (bf l) l.length (f + c) p Q0 = sAll (bf l) l.length f p' R) ∧ Lx l p' r ∧ p + c ≤ p' ∧ rS Q0 Q k R
  | 0, r, _, _, h => ⟨0, p, Q0, fun _ => rfl, h, Nat.le_refl _, rfl, rfl, rfl, rfl, hs0, fun i hi => absurd hi (Nat.not_lt_zero _)⟩
  | k + 1, r, hk, hr, h => by
    have hn := hT.1.1.2.1
    have h3 := hT.2.2.2.1
    rw [xSA, List.append_assoc] at h
    obtain ⟨c, p', R, e1, h1, hc, r1, r2, r3, r4, r5, r6⟩ := tt_SA hT hn0 hs0 k _ (by omega) (nx_app nx_S1 hr) h
    have hS := hT.2.2.2.2 k (by omega)
    have htg := (hT.1.2.2.1.2 k (by omega)).1
    have en : R.n = Q.n := r1.trans hn0
    obtain ⟨p2, R2, e2, h2, hc2, q1, q2, q3, q4, q5, q6, q7, q8⟩ := st_s (Q := R) (by rw [en]; exact h1) hr (by omega) (by omega) (by omega) (by rw [en]; exact hS)
    refine ⟨c + 1, p2, R2, fun f => ?_, h2, by omega, q1.trans r1, q2.trans r2, q3.trans r3, q4.trans r4, q5.trans (by show R.sc + 1 = k + 1; omega), fun i hi => ?_⟩
    · rw [show f + (c + 1) = (f + 1) + c by omega, e1, e2]
    · rw [q6]
      by_cases z : i = k
      · subst z
        refine ⟨if_pos r5.symm, fun x hx => ?_⟩
        obtain ⟨u1, u2⟩ := q8 x
        rw [r5] at u1 u2
        refine ⟨u2.trans ?_, u1.trans (if_pos (by omega))⟩
        by_cases w : Q.pr i x = none
        · rw [if_neg (fun y => y.2 w), (hS.2 x).2.2 w]
        · rw [if_pos ⟨by omega, w⟩]
      · obtain ⟨u1, u2⟩ := r6 i (by omega)
        refine ⟨(if_neg (by omega)).trans u1, fun x hx => ?_⟩
        obtain ⟨v1, v2⟩ := q7 i x (by omega)
        obtain ⟨w1, w2⟩ := u2 x hx
        exact ⟨v1.trans ((if_neg (by omega)).trans w1), v2.trans ((if_neg (by omega)).trans w2)⟩
/-- the text read -/
theorem tt_T (hT : TP Q) : good (bf (xT Q)) (xT Q).length = true ∧ ∃ R, (sText (bf (xT Q)) (xT Q).length).2.2 = R ∧ R.n = Q.n ∧ R.E = Q.E ∧ (∀ v, v < Q.n → R.pl v = Q.pl v) ∧ R.mc = Q.mc ∧ R.sc = Q.sc ∧ ∀ k, k < Q.sc → R.tg k = Q.tg k ∧ ∀ v, v < Q.n → R.wt k v = Q.wt k v ∧ R.pr k v = Q.pr k v := by
  obtain ⟨l, hl⟩ : ∃ l, xT Q = l := ⟨_, rfl⟩
  have hn := hT.1.1.2.1
  have h1n := hT.1.1.1
  have hG := hT.1.1
  have hC := hT.1.2.1
  have e1 : xT Q = [] ++ ([118, 101, 114, 116, 105, 99, 101, 115] ++ ([32] ++ (dgt Q.n ++ (xEA Q.E Q.n ++ (xPA Q.pl Q.n ++ (xSA Q Q.sc ++ [])))))) := by
    unfold xT
    rw [e23, List.append_nil]
    rfl
  have h0 : Lx l 0 ([] ++ ([118, 101, 114, 116, 105, 99, 101, 115] ++ ([32] ++ (dgt Q.n ++ (xEA Q.E Q.n ++ (xPA Q.pl Q.n ++ (xSA Q Q.sc ++ []))))))) := ⟨by rw [← e1, hl]; rfl, Nat.zero_le _⟩
  rw [hl]
  have nxS : nx (xSA Q Q.sc ++ []) := nx_app (nx_SA _) (.inl rfl)
  have nxP := nx_app (nx_PA (pl := Q.pl) Q.n) nxS
  have nxE := nx_app (nx_EA (E := Q.E) Q.n) nxP
  obtain ⟨w1, w2, w3⟩ := tok_w h0 bl_0 let_ok.1 (by decide) nh_32.2
  obtain ⟨n1, n2, n3, n4, n5⟩ := tok_n w2 bl_1 (by omega) (nx_nh nxE).1
  obtain ⟨c1, p1, E', a1, a2, a3, a4, a5⟩ := tt_EA hG Q.n _ (Nat.le_refl _) nxP n3
  have eE : E' = Q.E := E_ext fun x y hy => by
    rw [a5 x y hy]
    refine ⟨fun z => z.1, fun z => ⟨z, ?_⟩⟩
    obtain ⟨b1, b2, -⟩ := hG.2.2 x y hy z
    exact ⟨b1, b2⟩
  subst eE
  obtain ⟨c2, p2, pl', b1, b2, b3, b4⟩ := tt_PA (Q0 := (Qn Q.n).wE Q.E) (pl := Q.pl) hT.2.2.1 hn (fun _ => rfl) Q.n _ (Nat.le_refl _) nxS a2
  obtain ⟨c3, p3, R, d1, d2, d3, r1, r2, r3, r4, r5, r6⟩ := tt_SA (Q0 := ((Qn Q.n).wE Q.E).wp pl') hT rfl rfl Q.sc [] (Nat.le_refl _) (.inl rfl) b2
  have hlen := d2.len
  have hl0 : ([] : List Nat).length = 0 := rfl
  have e0 : sText (bf l) l.length = (true, p3, R) := by
    unfold sText
    rw [if_pos (show wd 0 (bf l) l.length 0 = true from (w3 0).trans wm_ok.1), w1, n5, if_pos (decide_eq_true ⟨h1n, hn⟩), n4, n2]
    obtain ⟨f, hf⟩ : ∃ f, l.length + 1 = (((f + 1) + c3) + c2) + c1 := ⟨l.length - c1 - c2 - c3, by omega⟩
    rw [hf, a1, b1, d1, sAll, if_neg (fun z => by have := tok_e d2; omega)]
  refine ⟨?_, R, by rw [e0], r1, r2, fun v hv => ?_, r4.trans hT.2.1.symm, r5, r6⟩
  · have er1 : R.n = Q.n := r1
    have er2 : R.E = Q.E := r2
    unfold good
    rw [e0]
    dsimp only
    rw [decide_eq_true (tok_e d2), er1, er2, decide_eq_true (Cn_pcn.2 hC)]
    rfl
  · rw [r3]
    show pl' v = Q.pl v
    rw [b4 v, if_pos hv]
end TT
