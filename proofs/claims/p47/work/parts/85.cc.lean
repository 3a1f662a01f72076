/-! ===== A YARD COPIED: piles, moves, strategies ===== -/
section COPY3
variable {w : Nat → Nat} {W : Wd} {a o : Nat} {Q : Ps}
theorem Yd.extK {K : Nat → Prop} {w w' : Nat → Nat} {m m' : Nat → Option AC} {a : Nat} {Q : Ps} (h : Yd w m a Q) (k : Kq K w w' m m' a) (hn : Q.n ≤ 6) (hK : K 27 ∧ K 6 ∧ K 1 ∧ K 0 ∧ K 30 ∧ K 5 ∧ K 13 ∧ K 2) : Yd w' m' a Q := by
  obtain ⟨e, p, st, kn, ff, kf, h1, h2, h3, h4, h5, h6⟩ := h
  obtain ⟨q1, q2, q3, q4, q5, q6, q7, q8⟩ := hK
  obtain ⟨k1, k2⟩ := k a _ h1 h2 q1
  exact ⟨e, p, st, kn, ff, kf, k1, k2, YM.ext h3 k q2 q3, h4.ext k q4 hn, h5.ext k q5 q6 q7, h6.ext k q8 q4⟩
theorem kd13 {f : AVc} : kd (.inl (0, 13, f)) = 13 := rfl
theorem AL.uniq {w w' : Nat → Nat} {m : Nat → Option AC} {o o' st : Nat} {l l' : List Nat} (h : AL w m o st l) (h' : AL w' m o' st l') : l = l' := by
  obtain ⟨mc, es, h1, h2, h3, h4⟩ := h
  obtain ⟨mc', es', g1, g2, g3, g4⟩ := h'
  rw [h1] at g1
  have e0 : nI l.length = nI l'.length ∧ es = es' := by
    injection g1 with g1
    injection g1 with g1
    injection g1 with _ g1
    injection g1 with _ g1
    injection g1 with g0 g1
    injection g1 with g1 _
    injection g0 with g0
    injection g1 with g1
    exact ⟨g1, g0⟩
  obtain ⟨e1, rfl⟩ := e0
  have e2 : l.length = l'.length := (nI_eq (by omega) (by omega)).1 e1
  rcases h4 with ⟨-, rfl⟩ | ⟨-, f, h6, h7⟩
  · cases l' with
    | nil => rfl
    | cons x l' => exact absurd e2 (by show ¬ 0 = l'.length + 1; omega)
  · rcases g4 with ⟨-, rfl⟩ | ⟨-, f', g6, g7⟩
    · cases l with
      | nil => rfl
      | cons x l => exact absurd e2 (by show ¬ l.length + 1 = 0; omega)
    · rw [h6] at g6
      have ef : f = f' := by
        injection g6 with g6
        injection g6 with g6
        injection g6 with _ g6
        injection g6 with _ g6
        injection g6 with g6
        injection g6 with g6
        injection g6 with g6
        injection g6 with g6
      subst ef
      apply List.ext_getElem?
      intro i
      by_cases hi : i < l.length
      · rw [← h7 i hi, g7 i (by omega)]
      · rw [List.getElem?_eq_none (by omega), List.getElem?_eq_none (by omega)]
theorem yo_st {n e p st kn ff e' p' st' kn' ff' n' : Nat} {mc kf mc' kf' : Int32} (h : (some (yo n e p mc st kn kf ff) : Option AC) = some (yo n' e' p' mc' st' kn' kf' ff')) : st = st' := by
  unfold yo at h
  injection h with h
  injection h with h
  injection h with _ h
  injection h with _ h
  injection h with _ h
  injection h with _ h
  injection h with _ h
  injection h with h _
  injection h
/-- the strategies, one after the other -/
theorem r303_78 {w0 : Nat → Nat} {X : Wd} {it sto : Nat} {lo : List Nat} {mco : Int32} {eso : Nat} (hn : Q.n ≤ 6) (hsc : Q.sc ≤ 6) (hX : Yd w0 X.cl a (wsc Q 0)) (hne : ¬ o = a) (hal : AL w0 X.cl o sto lo) (hlo : lo.length = Q.sc) (hms : X.cl sto = some (.inr (10, [.int mco, .ref eso, .int (nI lo.length)]))) (hya : ∀ k s, lo[k]? = some s → YA w0 X.cl o s Q.n (Q.tg k) (Q.wt k) (Q.pr k)) (hW : Wk X.cl it sto 0 mco) (hit : w0 it = a) (htop : X.top < 860000) :
    ∃ V w', lw (G_303_78 a it) 200000 X = some V ∧ Yd w' V.cl a Q ∧ Fz w0 w' a 12 138 X V := by
  have hsto : w0 sto = o := by obtain ⟨_, _, _, q, _⟩ := hal; exact q
  refine (fun ⟨V, e, w', y, f⟩ => ⟨V, w', e, y, f⟩ : (∃ V, lw (G_303_78 a it) 200000 X = some V ∧ ∃ w', Yd w' V.cl a Q ∧ Fz w0 w' a 12 138 X V) → _) ?_
  refine lw_for (n := Q.sc) (fun k s => ∃ w', Yd w' s.cl a (wsc Q k) ∧ Wk s.cl it sto k mco ∧ w' it = a ∧ Fz w0 w' a (2 * k) (23 * k) X s) ?_ ?_ ⟨w0, hX, hW, hit, (Fz.rf w0 a X).up (by omega) (by omega)⟩ (by omega)
  · rintro k V hk ⟨w', y, hw, wi, f⟩
    left
    have hVt : V.top ≤ X.top + 12 := by have q1 := f.2.2.2.1.1; have q2 := f.2.2.2.1.2.2; omega
    have ko := f.kq (b := o) hne
    have al := hal.ext ko trivial trivial
    have ms := (ko sto _ hms hsto trivial).1
    obtain ⟨s, hs⟩ : ∃ s, lo[k]? = some s := ⟨_, List.getElem?_eq_getElem (by omega)⟩
    have ya := (hya k s hs).ext ko trivial
    obtain ⟨ws, fs, s1, s2, s3⟩ := ya
    have hsb : s < am_SB := lt_cl s1
    have e343 := itHas al hw (by omega)
    rw [if_neg (by omega)] at e343
    obtain ⟨lr, gi⟩ := id hw
    obtain ⟨V1, ci, e344, hw1, ci1, ci2, far1, sm1, co1, t1⟩ := itNext al ms hw hs hsb
    have k1 : ∀ b, Kq (fun k => ¬ k = 31) w' w' V.cl V1.cl b := fun b x c hx ho hk => ⟨by rw [far1 x (fun z => by subst z; rw [ci1] at hx; cases hx; exact hk ci2)]; exact hx, ho⟩
    have s1' : V1.cl s = some (.inl (0, 13, .inl fs)) := (k1 o s _ s1 ws (show ¬ 13 = 31 by decide)).1
    have y1 := y.extK (k1 a) hn (by decide)
    obtain ⟨V2, e2, k2⟩ := nC_ s1' (by omega)
    have kq2 : Kq (fun _ => True) w' (fr w' a V1.top) V1.cl V2.cl a := fun b c hb ho _ => ⟨k2.old hb, (fr_o (cl_lt hb)).trans ho⟩
    have y2 := y1.ext kq2 hn
    have n2 := k2.new 0
    rw [Nat.add_zero] at n2
    have n2 : V2.cl V1.top = some (.inl (0, 13, .inl fs)) := n2
    have t2 : V2.top = V1.top + 1 := k2.2.2.1
    obtain ⟨gi1, g2⟩ := id hw1
    have wit : fr w' a V1.top it = a := (fr_o (cl_lt g2)).trans wi
    obtain ⟨e, p, st, kn, ff, kf, h1, h2, h3, h4, ⟨l, q1, q2, q3, q4⟩, h6⟩ := id y2
    obtain ⟨e', p', st', kn', ff', kf', h1', -⟩ := id y1
    have hst : st' = st := yo_st ((k2.old h1').symm.trans h1)
    subst hst
    have hcl : ¬ V1.top ∈ l := fun z => by
      obtain ⟨i, hi, hz⟩ := List.getElem_of_mem z
      obtain ⟨a1, f1, a2, -⟩ := q4 i V1.top (by rw [List.getElem?_eq_getElem hi, hz])
      obtain ⟨e3, p3, st3, kn3, ff3, kf3, b1, -, -, -, ⟨l3, c1, c2, c3, c4⟩, -⟩ := id y1
      have : st3 = st' := yo_st (b1.symm.trans h1')
      subst this
      have hl : l3 = l := AL.uniq (c1.ext kq2 trivial trivial) q1
      subst hl
      obtain ⟨-, f2, d2, -⟩ := c4 i V1.top (by rw [List.getElem?_eq_getElem hi, hz])
      exact absurd (cl_lt d2) (by omega)
    obtain ⟨V3, w3, e3, y3, f3, k3⟩ := yAddS (Q := wsc Q k) h1 h2 h3 h4 q1 q2 q3 q4 h6 hn (show k < 10 by omega) (c := V1.top) ⟨fr_n (Nat.le_refl _), fs, n2, s2, s3⟩ hcl (by omega)
    refine ⟨V3, ?_, w3, y3, ?_, ?_, ?_⟩
    · unfold G_303_78
      dsimp only
      rw [rc_ gi, Option.bind_some, e343, Option.bind_some, if_neg (by decide), Option.bind_some, e344, Option.bind_some]
      dsimp only
      rw [ra_ s1' (.inl rfl), Option.bind_some, yStrs h1', Option.bind_some, e2, Option.bind_some]
      dsimp only
      have r2 : V2.rc st' 10 = some () := by obtain ⟨_, _, q, _⟩ := q1; exact rc_ q
      rw [ra_ n2 (.inl rfl), Option.bind_some, r2, Option.bind_some, e3, Option.bind_some]
    · exact ⟨gi1, (k3 it _ (k2.old g2) wit ⟨show ¬ 31 = 5 by decide, show ¬ 31 = 30 by decide⟩).1⟩
    · exact (k3 it _ (k2.old g2) wit ⟨show ¬ 31 = 5 by decide, show ¬ 31 = 30 by decide⟩).2
    · have fa : Fz w' w' a 0 0 V V1 := ⟨fun _ _ => rfl, fun b _ hno => far1 b (fun z => hno (by rw [z]; exact wi)), sm1, co1, by omega⟩
      have fb : Fz w' (fr w' a V1.top) a 1 13 V1 V2 := ⟨fun b hb => fr_o hb, fun b hb _ => by rw [k2.1, if_neg (by omega)], k2.2.1, k2.co, by omega⟩
      exact (f.tr (fa.tr (fb.tr f3))).up (by omega) (by omega)
  · rintro V ⟨w', y, hw, wi, f⟩
    have ko := f.kq (b := o) hne
    have al := hal.ext ko trivial trivial
    have e343 := itHas al hw (by omega)
    rw [if_pos hlo.symm] at e343
    obtain ⟨lr, gi⟩ := id hw
    refine ⟨V, ?_, w', y, f.up (by omega) (by omega)⟩
    unfold G_303_78
    dsimp only
    rw [rc_ gi, Option.bind_some, e343, Option.bind_some, if_pos rfl]
end COPY3
