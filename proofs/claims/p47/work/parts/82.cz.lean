/-! ===== A YARD COPIED: all rows of edges ===== -/
section COPY2
variable {w : Nat → Nat} {W : Wd} {a o n E : Nat}
theorem Fy.kq {w : Nat → Nat} {a b : Nat} {W W' : Wd} (h : Fy w a W W') (hne : ¬ b = a) : Kq (fun _ => True) w w W.cl W'.cl b := fun x c hx hw _ => ⟨by rw [h.1 x (by rw [hw]; exact hne)]; exact hx, hw⟩
theorem r303_10 {eo po sto kno ffo e p st kn ff : Nat} {mco kfo mc kf : Int32} (ho : W.cl o = some (yo n eo po mco sto kno kfo ffo)) (hE : YE w W.cl o eo n E) (ha : W.cl a = some (yo n e p mc st kn kf ff)) (hA : YM w W.cl a e n (fun _ _ => false)) (wa : w a = a) (wo : w o = o) (hne : ¬ o = a) (hn : n ≤ 6) :
    ∃ W', lw (G_303_10 a o) 200000 (0, W) = some W' ∧ YE w W'.cl a e n E ∧ Fy w a W W' ∧ Kq (fun k => ¬ k = 1) w w W.cl W'.cl a := by
  have main : ∃ W', lw (G_303_10 a o) 200000 (0, W) = some W' ∧ YM w W'.cl a e n (rd E n) ∧ Fy w a W W' ∧ Kq (fun k => ¬ k = 1) w w W.cl W'.cl a := by
    refine lw_for (n := n) (fun i s => ∃ V, s = (nI i, V) ∧ YM w V.cl a e n (rd E i) ∧ Fy w a W V ∧ Kq (fun k => ¬ k = 1) w w W.cl V.cl a) ?_ ?_ ⟨W, rfl, hA.cong fun x y _ _ => if_neg (Nat.not_lt_zero _), ⟨fun _ _ => rfl, Sm.rf W, Co.rf W, rfl⟩, fun b c hb hw _ => ⟨hb, hw⟩⟩ (by omega)
    · rintro i s hi ⟨V, rfl, y1, f1, k1⟩
      left
      have yE : YE w V.cl o eo n E := YM.ext hE (f1.kq hne) trivial trivial
      have ho' : V.cl o = some (yo n eo po mco sto kno kfo ffo) := (f1.kq hne o _ ho wo trivial).1
      have ha' : V.cl a = some (yo n e p mc st kn kf ff) := (k1 a _ ha wa (show ¬ 27 = 1 by decide)).1
      obtain ⟨-, r, er, c2, c3, -⟩ := yE
      obtain ⟨d1, d2, f, d3, d4⟩ := c3 i hi
      obtain ⟨ra, g, V', b1, b2, b3, b4, ⟨g', b5⟩, b6⟩ := YM.rowput y1 hn hi d3 d4
      have b4 : V.cp (r i) 0 ra 0 (nI n) = some V' := b4
      refine ⟨(nI (i + 1), V'), ?_, V', rfl, b6.cong fun x y hx hy => ?_, f1.tr (b5.fy b3), k1.tr (Kq.up (b5.kq b2) fun k hk => by rw [kd1]; exact hk)⟩
      · unfold G_303_10
        dsimp only
        have g1 : V.gI a 7 0 = some (nI n) := yMany ha'
        have g2 : V.gR o 7 1 = some eo := yEdge ho'
        have g3 : V.aR eo (nI i) = some (r i) := aR_ c2 (by decide) hi (by omega) d1
        have g4 : V.gR a 7 1 = some e := yEdge ha'
        rw [g1, Option.bind_some, if_neg (nI_ge hi (by omega)), g2, Option.bind_some, g3, Option.bind_some, g4, Option.bind_some, b1, Option.bind_some, Option.bind_some, b4, Option.bind_some, nI_1]
      · unfold rd
        by_cases z : x = i
        · rw [if_pos z, if_pos (by omega), z]
        · rw [if_neg z]
          by_cases q : x < i
          · rw [if_pos q, if_pos (by omega)]
          · rw [if_neg q, if_neg (by omega)]
    · rintro s ⟨V, rfl, y1, f1, k1⟩
      refine ⟨V, ?_, y1, f1, k1⟩
      have ha' : V.cl a = some (yo n e p mc st kn kf ff) := (k1 a _ ha wa (show ¬ 27 = 1 by decide)).1
      unfold G_303_10
      dsimp only
      rw [yMany ha', Option.bind_some, if_pos (nI_le (Nat.le_refl _) (by omega))]
  obtain ⟨W', e1, y1, f1, k1⟩ := main
  exact ⟨W', e1, y1.cong fun x y hx _ => (if_pos hx).symm, f1, k1⟩
end COPY2
