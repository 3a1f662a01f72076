/-! ===== THE YARD: a strategy weighed, dropped; what others keep ===== -/
section WS
variable {w : Nat → Nat} {W : Wd} {a : Nat} {Q : Ps}
theorem yWeigh (h : Yd w W.cl a Q) (hn : Q.n ≤ 6) {k v : Nat} (hk : k < Q.sc) (hv : v < Q.n) (x p : Nat) : ∃ st s W1 W2, W.gR a 7 4 = some st ∧ W.rc st 10 = some () ∧ F_352 W st (nI k) = some s ∧ W.ra s 0 = some () ∧ W.aI s 0 = some (nI (Q.tg k)) ∧ W.aI s (1 + nI v) = some (nI (Q.wt k v)) ∧ W.sI s (1 + nI v) (nI x) = some W1 ∧ W1.sI s (7 + nI v) (nI p) = some W2 ∧ Yd w W2.cl a (Q.wS Q.sc Q.tg (uwt k v x Q.wt) (uwt k v (some p) Q.pr)) ∧ Fy w a W W2 := by
  obtain ⟨e, pp, st, kn, ff, kf, h1, h2, h3, h4, ⟨l, h5, h6, h7, h8⟩, h9⟩ := h
  obtain ⟨s, hs⟩ : ∃ s, l[k]? = some s := ⟨_, List.getElem?_eq_getElem (by omega)⟩
  obtain ⟨ws, f, s1, s2, s3⟩ := h8 k s hs
  have rcs : W.rc st 10 = some () := by obtain ⟨_, _, q, _⟩ := h5; exact rc_ q
  obtain ⟨W1, e1, k1⟩ := sI_ (i := 1 + v) s1 (by omega) (by decide) (nI x)
  have c1 : W1.cl s = some (.inl (0, 13, .inl (upd f (1 + v) (nI x)))) := by rw [k1.1]; exact upm_s
  obtain ⟨W2, e2, k2⟩ := sI_ (i := 7 + v) c1 (by omega) (by decide) (nI p)
  have c2 : W2.cl s = some (.inl (0, 13, .inl (upd (upd f (1 + v) (nI x)) (7 + v) (nI p)))) := by rw [k2.1]; exact upm_s
  have kk : Kq (fun k => ¬ k = 13) w w W.cl W2.cl a := Kq.tr (Kq.up (k1.kq s1) fun _ h => h) (Kq.up (k2.kq c1) fun _ h => h)
  refine ⟨st, s, W1, W2, yStrs h1, rcs, alGet h5 hs (lt_cl s1), ra_ s1 (.inl rfl), ?_, ?_, ?_, ?_, ⟨e, pp, st, kn, ff, kf, (kk a _ h1 h2 (show ¬ 27 = 13 by decide)).1, h2, YM.ext h3 kk (show ¬ 6 = 13 by decide) (show ¬ 1 = 13 by decide), h4.ext kk (show ¬ 0 = 13 by decide) hn, ⟨l, h5.ext kk (show ¬ 30 = 13 by decide) (show ¬ 5 = 13 by decide), h6, h7, fun i s' hs' => ?_⟩, h9.ext kk (show ¬ 2 = 13 by decide) (show ¬ 0 = 13 by decide)⟩, (k1.fy ws).tr (k2.fy ws)⟩
  · rw [← s2]; exact aI_ s1 (i := 0) (by decide) (by decide)
  · rw [z1, nI_add, aI_ s1 (by omega) (by decide), (s3 v hv).1]
  · rw [z1, nI_add]; exact e1
  · rw [z7, nI_add]; exact e2
  · by_cases q : i = k
    · subst q
      rw [hs] at hs'
      cases hs'
      refine ⟨ws, _, c2, ?_, fun u hu => ?_⟩
      · rw [upd_f, if_neg (by omega), upd_f, if_neg (by omega)]
        exact s2
      · show _ = nI (uwt i v x Q.wt i u) ∧ _ = pI (uwt i v (some p) Q.pr i u)
        unfold uwt
        have hv6 : v < 6 := by omega
        have hu6 : u < 6 := by have : u < Q.n := hu; omega
        obtain ⟨t1, t2⟩ := s3 u hu
        by_cases q2 : u = v
        · rw [if_pos ⟨rfl, q2⟩, if_pos ⟨rfl, q2⟩, upd_f, if_neg (by omega), upd_f, if_pos (by omega), upd_f, if_pos (by omega)]
          exact ⟨rfl, rfl⟩
        · rw [if_neg (fun z => q2 z.2), if_neg (fun z => q2 z.2), upd_f, if_neg (by omega), upd_f, if_neg (by omega), upd_f, if_neg (by omega), upd_f, if_neg (by omega)]
          exact ⟨t1, t2⟩
    · have hne : ¬ s' = s := fun z => by
        subst z
        have hi := (List.getElem?_eq_some_iff.mp hs').1
        have hk' := (List.getElem?_eq_some_iff.mp hs).1
        have e1 := (List.getElem?_eq_some_iff.mp hs').2
        have e2 := (List.getElem?_eq_some_iff.mp hs).2
        exact q ((List.getElem_inj h7).1 (e1.trans e2.symm))
      obtain ⟨b1, g, b2, b3, b4⟩ := h8 i s' hs'
      refine ⟨b1, g, by rw [k2.1, upm_n hne, k1.1, upm_n hne]; exact b2, b3, fun u hu => ?_⟩
      show _ = nI (uwt k v x Q.wt i u) ∧ _ = pI (uwt k v (some p) Q.pr i u)
      unfold uwt
      rw [if_neg (fun z => q z.1), if_neg (fun z => q z.1)]
      exact b4 u hu
theorem yDrop (h : Yd w W.cl a Q) (hn : Q.n ≤ 6) {k : Nat} (hk : k < Q.sc) : ∃ st s W', W.gR a 7 4 = some st ∧ W.rc st 10 = some () ∧ F_355 W st (nI k) = some (s, W') ∧ W'.ra s 0 = some () ∧ Yd w W'.cl a (Q.wS (Q.sc - 1) (dtg k Q.tg) (dwt k Q.wt) (dwt k Q.pr)) ∧ (∀ b, ¬ w b = a → W'.cl b = W.cl b) ∧ Sm W W' ∧ Co 0 0 W W' := by
  obtain ⟨e, pp, st, kn, ff, kf, h1, h2, h3, h4, ⟨l, h5, h6, h7, h8⟩, h9⟩ := h
  obtain ⟨s, hs⟩ : ∃ s, l[k]? = some s := ⟨_, List.getElem?_eq_getElem (by omega)⟩
  obtain ⟨ws, f, s1, s2, s3⟩ := h8 k s hs
  have rcs : W.rc st 10 = some () := by obtain ⟨_, _, q, _⟩ := h5; exact rc_ q
  obtain ⟨W', e1, y1, f1, f2, f3, f4⟩ := alRemove h5 hs (lt_cl s1)
  have kk : Kq (fun k => ¬ k = 5 ∧ ¬ k = 30) w w W.cl W'.cl a := fun b c hb ho hk => ⟨f4 b c hb (fun n f z => hk.1 (by
    rw [z]
    show (if 5 = 0 ∧ n = 13 then 13 else 5) = 5
    rw [if_neg (by omega)])) (fun z => hk.2 (by
      obtain ⟨mc, es, q, -⟩ := h5
      rw [z, q] at hb
      cases hb
      rfl)), ho⟩
  have l1 : (l.eraseIdx k).length = Q.sc - 1 := by rw [List.length_eraseIdx_of_lt (by omega), h6]
  refine ⟨st, s, W', yStrs h1, rcs, e1, ra_ ((kk s _ s1 ws ⟨show ¬ 13 = 5 by decide, show ¬ 13 = 30 by decide⟩).1) (.inl rfl), ⟨e, pp, st, kn, ff, kf, (kk a _ h1 h2 ⟨show ¬ 27 = 5 by decide, show ¬ 27 = 30 by decide⟩).1, h2, YM.ext h3 kk (by decide) (by decide), h4.ext kk (by decide) hn, ⟨l.eraseIdx k, y1, l1, h7.sublist (List.eraseIdx_sublist ..), fun i s' hs' => ?_⟩, h9.ext kk (by decide) (by decide)⟩, f1, f2, f3⟩
  rw [List.getElem?_eraseIdx] at hs'
  show YA w W'.cl a s' Q.n (dtg k Q.tg i) (dwt k Q.wt i) (dwt k Q.pr i)
  unfold dtg dwt
  by_cases q : i < k
  · rw [if_pos q] at hs'
    simp only [if_pos q]
    exact (h8 i s' hs').ext kk (by decide)
  · rw [if_neg q] at hs'
    simp only [if_neg q]
    exact (h8 (i + 1) s' hs').ext kk (by decide)
end WS
/-- all that is neither the yard's nor the place y stays -/
def Kn (g y : Nat) (w w' : Nat → Nat) (W W' : Wd) : Prop := ∀ b c, W.cl b = some c → ¬ w b = g → ¬ b = y → W'.cl b = some c ∧ w' b = w b
theorem Kn.rf (g y : Nat) (w : Nat → Nat) (W : Wd) : Kn g y w w W W := fun _ _ h _ _ => ⟨h, rfl⟩
theorem Kn.tr {g y : Nat} {u v w : Nat → Nat} {X Y Z : Wd} (h : Kn g y u v X Y) (k : Kn g y v w Y Z) : Kn g y u w X Z := fun b c hb h1 h2 => by
  obtain ⟨a1, a2⟩ := h b c hb h1 h2
  obtain ⟨b1, b2⟩ := k b c a1 (by rw [a2]; exact h1) h2
  exact ⟨b1, b2.trans a2⟩
theorem Fz.kn {g y c k : Nat} {w w' : Nat → Nat} {W W' : Wd} (h : Fz w w' g c k W W') : Kn g y w w' W W' := fun b c hb h1 _ => ⟨by rw [h.2.1 b (cl_lt hb) h1]; exact hb, h.1 b (cl_lt hb)⟩
theorem Kn.cl {g y : Nat} {w : Nat → Nat} {W W' : Wd} (h : W'.cl = W.cl) : Kn g y w w W W' := fun b c hb _ _ => ⟨by rw [h]; exact hb, rfl⟩
theorem Kn.kq {g y o : Nat} {w w' : Nat → Nat} {W W' : Wd} (h : Kn g y w w' W W') (h1 : ¬ o = g) (h2 : ¬ w y = o) : Kq (fun _ => True) w w' W.cl W'.cl o := fun b c hb ho _ => by
  obtain ⟨a1, a2⟩ := h b c hb (by rw [ho]; exact h1) (fun z => h2 (by rw [← z]; exact ho))
  exact ⟨a1, a2.trans ho⟩
theorem Wr.kn {g y : Nat} {c : AC} {w : Nat → Nat} {W W' : Wd} (h : Wr W W' y c) : Kn g y w w W W' := fun b d hb _ h2 => ⟨by rw [h.1, upm_n h2]; exact hb, rfl⟩
/-- a refusal told -/
theorem h301 {W : Wd} {y : Nat} {r : Int32} (h : W.cl y = some (.inr (6, [.int r]))) (k : Int32) : ∃ W', F_301 W y k = some (3294967293, W') ∧ W'.cl y = some (.inr (6, [.int k])) ∧ Wr W W' y (.inr (6, [.int k])) ∧ W.rc y 6 = some () := by
  obtain ⟨W', e, q⟩ := pv_ (v := .int k) (i := 0) h ⟨show 0 < 1 by decide, rfl, rfl, nofun⟩
  refine ⟨W', ?_, by rw [q.1]; exact upm_s, q, rc_ h⟩
  unfold F_301
  rw [e, Option.bind_some]
