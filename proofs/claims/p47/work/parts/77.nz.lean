/-! ===== THE YARD'S NEXT MOVE: all tries ===== -/
section NZ
variable {w w0 : Nat → Nat} {W W0 V : Wd} {a t k : Nat} {Q : Ps}
theorem YI.top (h : YI W0 w0 a t Q k V w) : V.top ≤ W0.top + 8 + k := by
  obtain ⟨b, -, -, -, -, ⟨h1, -, h2⟩, -⟩ := h
  cases b with
  | true => rw [if_pos rfl] at h1; omega
  | false => rw [if_neg (by decide)] at h1; omega
theorem YI.of (h : Yd w W.cl a Q) : YI W w a t Q 0 W w := ⟨false, ⟨(fun z => absurd z (by decide)), h⟩, Fz.rf w a W⟩
theorem YI.more {w' : Nat → Nat} {V' : Wd} {b : Bool} {Q' : Ps} (h : Fz w0 w a (if b then 8 + k else k) (if b then 32810 + 6 * k else 6 * k) W0 V) (g : Fz w w' a (if b then 1 else 9) (if b then 6 else 32816) V V') (y : YB true w' V'.cl a Q' t) : YI W0 w0 a t Q' (k + 1) V' w' := by
  refine ⟨true, y, (h.tr g).up ?_ ?_⟩
  · cases b with
    | true => show 8 + k + 1 ≤ 8 + (k + 1); omega
    | false => show k + 9 ≤ 8 + (k + 1); omega
  · cases b with
    | true => show 32810 + 6 * k + 6 ≤ 32810 + 6 * (k + 1); omega
    | false => show 6 * k + 32816 ≤ 32810 + 6 * (k + 1); omega
theorem y314_12 (h : YI W0 w0 a t Q k W w) (hG : Gr Q.n Q.E) (hC : Cn Q.n Q.E) (ht : t < Q.n) (h9 : ∀ v, v < Q.n → Q.pl v ≤ 999) (htop : W0.top + k < 845000) {u : Nat} (hu : u < Q.n) :
    ∃ y, lw (G_314_12 a (nI t) (nI u)) 200000 (0, W) = some y ∧ ∃ V w' j, YI W0 w0 a t Q (k + j) V w' ∧ j ≤ 6 ∧ ((ffs (gd Q.n Q.E t Q.pl u) 0 Q.n = none ∧ y = .inl V ∧ (j = 0 ∨ sm Q.pl Q.n ≤ 58)) ∨ ∃ v, ffs (gd Q.n Q.E t Q.pl u) 0 Q.n = some v ∧ y = .inr (nI (10 * u + v), V) ∧ (j ≤ 1 ∨ sm Q.pl Q.n ≤ 58)) := by
  have hn := hG.2.1
  refine lw_for (n := Q.n) (fun i st => ∃ V w' j, st = (nI i, V) ∧ YI W0 w0 a t Q (k + j) V w' ∧ j ≤ i ∧ (j = 0 ∨ sm Q.pl Q.n ≤ 58) ∧ ffs (gd Q.n Q.E t Q.pl u) 0 Q.n = ffs (gd Q.n Q.E t Q.pl u) i (Q.n - i)) ?_ ?_ ⟨W, w, 0, rfl, h, Nat.le_refl _, .inl rfl, by rw [Nat.sub_zero]⟩ (by omega)
  · rintro i st hi ⟨V, w', j, rfl, y, hj, h58, h1⟩
    obtain ⟨m, hm⟩ : ∃ m, Q.n - i = m + 1 := ⟨Q.n - i - 1, by omega⟩
    have hm2 : Q.n - (i + 1) = m := by omega
    rw [hm, ffs] at h1
    have htp := y.top
    obtain ⟨b, y1, y2⟩ := id y
    obtain ⟨r, e, ⟨q1, rfl⟩ | ⟨V', w2, y3, f3, ⟨q1, q2, rfl⟩ | ⟨q1, rfl⟩⟩⟩ := y314_step y1 hG hC ht hu hi h9 (by omega)
    · left
      rw [q1, if_neg (by decide)] at h1
      exact ⟨(nI (i + 1), V), e, V, w', j, rfl, y, by omega, h58, by rw [hm2]; exact h1⟩
    · left
      rw [q1, if_neg (by decide)] at h1
      exact ⟨(nI (i + 1), V'), e, V', w2, j + 1, rfl, YI.more y2 f3 y3, by omega, .inr q2, by rw [hm2]; exact h1⟩
    · right
      rw [q1, if_pos rfl] at h1
      refine ⟨.inr (nI (10 * u + i), V'), e, V', w2, j + 1, YI.more y2 f3 y3, by omega, .inr ⟨i, h1, rfl, ?_⟩⟩
      rcases h58 with z | z
      · exact .inl (by omega)
      · exact .inr z
  · rintro st ⟨V, w', j, rfl, y, hj, h58, h1⟩
    refine ⟨.inl V, ?_, V, w', j, y, by omega, .inl ⟨?_, rfl, h58⟩⟩
    · obtain ⟨b, ⟨-, e, p, st, kn, ff, kf, g1, -⟩, -⟩ := y
      unfold G_314_12
      dsimp only
      rw [yMany g1, Option.bind_some, if_pos (nI_le (Nat.le_refl _) (by omega))]
    · rw [h1, Nat.sub_self]; rfl
/-- the law's word for a move, or that there is none -/
def nI4 : Option Nat → Int32
  | none => 3294967292
  | some m => nI m
/-- the yard's next move is the first that leads on -/
theorem yNext (h : YI W0 w0 a t Q k W w) (hG : Gr Q.n Q.E) (hC : Cn Q.n Q.E) (ht : t < Q.n) (h9 : ∀ v, v < Q.n → Q.pl v ≤ 999) (htop : W0.top + k < 844000) :
    ∃ V w' j, F_314 W a (nI t) = some (nI4 (nxm Q.n Q.E t Q.pl), V) ∧ YI W0 w0 a t Q (k + j) V w' ∧ j ≤ 36 ∧ (j ≤ 1 ∨ sm Q.pl Q.n ≤ 58) := by
  have hn := hG.2.1
  have main : ∃ y, lw (G_314_2 a (nI t)) 200000 (0, W) = some y ∧ ∃ V w' j, YI W0 w0 a t Q (k + j) V w' ∧ j ≤ 36 ∧ (j ≤ 1 ∨ sm Q.pl Q.n ≤ 58) ∧ ((nxm Q.n Q.E t Q.pl = none ∧ y = .inl V) ∨ ∃ m, nxm Q.n Q.E t Q.pl = some m ∧ y = .inr (nI m, V)) := by
    refine lw_for (n := Q.n) (fun i st => ∃ V w' j, st = (nI i, V) ∧ YI W0 w0 a t Q (k + j) V w' ∧ j ≤ 6 * i ∧ (j = 0 ∨ sm Q.pl Q.n ≤ 58) ∧ nxm Q.n Q.E t Q.pl = nmv Q.n Q.E t Q.pl i (Q.n - i)) ?_ ?_ ⟨W, w, 0, rfl, h, Nat.le_refl _, .inl rfl, by rw [Nat.sub_zero]; rfl⟩ (by omega)
    · rintro i st hi ⟨V, w', j, rfl, y, hj, h58, h1⟩
      obtain ⟨m, hm⟩ : ∃ m, Q.n - i = m + 1 := ⟨Q.n - i - 1, by omega⟩
      have hm2 : Q.n - (i + 1) = m := by omega
      rw [hm, nmv] at h1
      have many : V.gI a 7 0 = some (nI Q.n) := by
        obtain ⟨b, ⟨-, e, p, st, kn, ff, kf, g1, -⟩, -⟩ := y
        exact yMany g1
      obtain ⟨x, e1, V2, w2, l, y2, hl, ⟨q1, rfl, q3⟩ | ⟨v, q1, rfl, q3⟩⟩ := y314_12 y hG hC ht h9 (by omega) hi
      · left
        rw [q1] at h1
        refine ⟨(nI (i + 1), V2), ?_, V2, w2, j + l, rfl, by rw [← Nat.add_assoc]; exact y2, by omega, ?_, by rw [hm2]; exact h1⟩
        · unfold G_314_2
          dsimp only
          rw [many, Option.bind_some, if_neg (nI_ge hi (by omega)), e1, Option.bind_some, nI_1]
        · rcases h58 with z | z
          · rcases q3 with x | x
            · exact .inl (by omega)
            · exact .inr x
          · exact .inr z
      · right
        rw [q1] at h1
        refine ⟨.inr (nI (10 * i + v), V2), ?_, V2, w2, j + l, by rw [← Nat.add_assoc]; exact y2, by omega, ?_, .inr ⟨_, h1, rfl⟩⟩
        · unfold G_314_2
          dsimp only
          rw [many, Option.bind_some, if_neg (nI_ge hi (by omega)), e1, Option.bind_some]
        · rcases h58 with z | z
          · rcases q3 with x | x
            · exact .inl (by omega)
            · exact .inr x
          · exact .inr z
    · rintro st ⟨V, w', j, rfl, y, hj, h58, h1⟩
      refine ⟨.inl V, ?_, V, w', j, y, by omega, ?_, .inl ⟨?_, rfl⟩⟩
      · obtain ⟨b, ⟨-, e, p, st, kn, ff, kf, g1, -⟩, -⟩ := y
        unfold G_314_2
        dsimp only
        rw [yMany g1, Option.bind_some, if_pos (nI_le (Nat.le_refl _) (by omega))]
      · rcases h58 with z | z
        · exact .inl (by omega)
        · exact .inr z
      · rw [h1, Nat.sub_self]; rfl
  obtain ⟨y, e1, V, w', j, y1, hj, h58, hq⟩ := main
  refine ⟨V, w', j, ?_, y1, hj, h58⟩
  unfold F_314
  rw [e1, Option.bind_some]
  rcases hq with ⟨q, rfl⟩ | ⟨m, q, rfl⟩
  · rw [q]; rfl
  · rw [q]; rfl
end NZ
