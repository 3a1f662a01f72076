/-! ===== ONE STRATEGY MORE ===== -/
section ADD
variable {w : Nat → Nat} {W : Wd} {o st : Nat} {l : List Nat}
theorem alAddK (h : AL w W.cl o st l) (hl : l.length < 10) {c : Nat} {d : AC} (hc : W.cl c = some d) (hm : am_mayb 5 d = true) (ht : W.top < 880000) : ∃ W' w', F_354 W st c = some (1, W') ∧ AL w' W'.cl o st (l ++ [c]) ∧ Fz w w' o 1 10 W W' ∧ Kq (fun k => ¬ k = 5 ∧ ¬ k = 30) w w' W.cl W'.cl o := by
  obtain ⟨W', w', e1, y1, q1, q2, q3, q4, q5, q6⟩ := alAdd h hl hc hm ht
  obtain ⟨mc, es, h1, -⟩ := h
  refine ⟨W', w', e1, y1, ⟨q1, q2, q3, q4, q6⟩, fun b e hb ho hk => ⟨q5 b (cl_lt hb) e hb (fun n f z => hk.1 ?_) (fun z => ?_), (q1 b (cl_lt hb)).trans ho⟩⟩
  · rw [z]
    show (if 5 = 0 ∧ n = 13 then 13 else 5) = 5
    rw [if_neg (by omega)]
  · rw [z, h1] at hb
    cases hb
    exact hk.2 rfl
/-- k strategies -/
def wsc (Q : Ps) (k : Nat) : Ps := (Q.n, Q.E, Q.pl, Q.mc, k, Q.tg, Q.wt, Q.pr)
theorem yAddS {a e p st kn ff : Nat} {kf : Int32} {Q : Ps} (h1 : W.cl a = some (yo Q.n e p Q.mc st kn kf ff)) (h2 : w a = a) (h3 : YE w W.cl a e Q.n Q.E) (h4 : YP w W.cl a p Q.n Q.pl) (hal : AL w W.cl a st l) (hlen : l.length = Q.sc) (hnd : l.Nodup) (hya : ∀ k s, l[k]? = some s → YA w W.cl a s Q.n (Q.tg k) (Q.wt k) (Q.pr k)) (h6 : YK w W.cl a p kn ff kf Q.n Q.E) (hn : Q.n ≤ 6) (hs : Q.sc < 10) {c : Nat} (hc : YA w W.cl a c Q.n (Q.tg Q.sc) (Q.wt Q.sc) (Q.pr Q.sc)) (hcl : ¬ c ∈ l) (ht : W.top < 880000) : ∃ W' w', F_354 W st c = some (1, W') ∧ Yd w' W'.cl a (wsc Q (Q.sc + 1)) ∧ Fz w w' a 1 10 W W' ∧ Kq (fun k => ¬ k = 5 ∧ ¬ k = 30) w w' W.cl W'.cl a := by
  obtain ⟨_, f, hcc, -⟩ := id hc
  obtain ⟨W', w', e1, y1, f1, kk⟩ := alAddK hal (by omega) hcc rfl ht
  refine ⟨W', w', e1, ⟨e, p, st, kn, ff, kf, (kk a _ h1 h2 ⟨show ¬ 27 = 5 by decide, show ¬ 27 = 30 by decide⟩).1, (kk a _ h1 h2 ⟨show ¬ 27 = 5 by decide, show ¬ 27 = 30 by decide⟩).2, YM.ext h3 kk (by decide) (by decide), h4.ext kk (by decide) hn, ⟨l ++ [c], y1, ?_, ?_, fun k s hks => ?_⟩, h6.ext kk (by decide) (by decide)⟩, f1, kk⟩
  · rw [List.length_append, hlen]
    rfl
  · rw [List.nodup_append]
    refine ⟨hnd, by simp, ?_⟩
    intro x hx y hy
    rw [List.mem_singleton] at hy
    subst hy
    exact fun z => hcl (z ▸ hx)
  · by_cases q : k < l.length
    · rw [List.getElem?_append_left q] at hks
      exact (hya k s hks).ext kk (by decide)
    · have hk := (List.getElem?_eq_some_iff.mp hks).1
      rw [List.length_append, List.length_singleton] at hk
      have e0 : k = l.length := by omega
      subst e0
      rw [List.getElem?_append_right (Nat.le_refl _), Nat.sub_self] at hks
      cases hks
      rw [hlen]
      exact hc.ext kk (by decide)
end ADD
