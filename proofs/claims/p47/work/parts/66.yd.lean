/-! ===== THE YARD: what it holds ===== -/
def YM (w : Nat → Nat) (m : Nat → Option AC) (a e n : Nat) (A : Nat → Nat → Bool) : Prop := w e = a ∧ ∃ (r : Nat → Nat) (er : Nat → Option Nat), m e = some (.inl (6, n, .inr (.inr (.inr (.inr er))))) ∧ (∀ v, v < n → er v = some (r v) ∧ w (r v) = a ∧ ∃ f, m (r v) = some (.inl (1, n, .inl f)) ∧ ∀ o, o < n → f o = bI (A v o)) ∧ ∀ u v, u < n → v < n → r u = r v → u = v
def YE (w : Nat → Nat) (m : Nat → Option AC) (a e n E : Nat) : Prop := YM w m a e n (ad E)
def YP (w : Nat → Nat) (m : Nat → Option AC) (a p n : Nat) (pl : Nat → Nat) : Prop := w p = a ∧ ∃ f, m p = some (.inl (0, n, .inl f)) ∧ ∀ v, v < n → f v = nI (pl v)
def YA (w : Nat → Nat) (m : Nat → Option AC) (a s n tg : Nat) (wt : Nat → Nat) (pr : Nat → Option Nat) : Prop := w s = a ∧ ∃ f, m s = some (.inl (0, 13, .inl f)) ∧ f 0 = nI tg ∧ ∀ v, v < n → f (1 + v) = nI (wt v) ∧ f (7 + v) = pI (pr v)
def YS (w : Nat → Nat) (m : Nat → Option AC) (a st n sc : Nat) (tg : Nat → Nat) (wt : Nat → Nat → Nat) (pr : Nat → Nat → Option Nat) : Prop := ∃ l, AL w m a st l ∧ l.length = sc ∧ l.Nodup ∧ ∀ k s, l[k]? = some s → YA w m a s n (tg k) (wt k) (pr k)
/-- what is known of a target is true -/
def KV (n E t : Nat) (kl : Nat) (kc : Nat → Int32) : Prop := kl = 2 ^ sm (ds n E t) n ∧ ∀ c, c < kl → kc c = 0 ∨ kc c = if fa n (ad E) (ds n E t) c then 2 else 1
def YK (w : Nat → Nat) (m : Nat → Option AC) (a p kn ff : Nat) (kf : Int32) (n E : Nat) : Prop := w kn = a ∧ w ff = a ∧ ¬ ff = p ∧ ∃ kl kc fl fc, m kn = some (.inl (2, kl, .inl kc)) ∧ m ff = some (.inl (0, fl, .inl fc)) ∧ fl ≤ 6 ∧ (kf = -1 ∨ ∃ t, t < n ∧ kf = nI t ∧ fl = n ∧ (∀ v, v < n → fc v = nI (ds n E t v)) ∧ KV n E t kl kc)
/-- the yard's own fields -/
def yo (n e p : Nat) (mc : Int32) (st kn : Nat) (kf : Int32) (ff : Nat) : AC := .inr (7, [.int (nI n), .ref e, .ref p, .int mc, .ref st, .ref kn, .int kf, .ref ff])
def Yd (w : Nat → Nat) (m : Nat → Option AC) (a : Nat) (Q : Ps) : Prop := ∃ e p st kn ff kf, m a = some (yo Q.n e p Q.mc st kn kf ff) ∧ w a = a ∧ YE w m a e Q.n Q.E ∧ YP w m a p Q.n Q.pl ∧ YS w m a st Q.n Q.sc Q.tg Q.wt Q.pr ∧ YK w m a p kn ff kf Q.n Q.E
section EXT
variable {K : Nat → Prop} {w w' : Nat → Nat} {m m' : Nat → Option AC} {a : Nat}
theorem YM.ext {e n : Nat} {A : Nat → Nat → Bool} (h : YM w m a e n A) (k : Kq K w w' m m' a) (k6 : K 6) (k1 : K 1) : YM w' m' a e n A := by
  obtain ⟨h1, r, er, h2, h3, h4⟩ := h
  obtain ⟨b1, b2⟩ := k e _ h2 h1 k6
  refine ⟨b2, r, er, b1, fun v hv => ?_, h4⟩
  obtain ⟨a1, a2, f, a3, a4⟩ := h3 v hv
  obtain ⟨b1, b2⟩ := k _ _ a3 a2 k1
  exact ⟨a1, b2, f, b1, a4⟩
theorem YP.ext {p n : Nat} {pl : Nat → Nat} (h : YP w m a p n pl) (k : Kq K w w' m m' a) (k0 : K 0) (hn : n ≤ 6) : YP w' m' a p n pl := by
  obtain ⟨h1, f, h2, h3⟩ := h
  obtain ⟨b1, b2⟩ := k p _ h2 h1 (by show K (if 0 = 0 ∧ n = 13 then 13 else 0); rw [if_neg (by omega)]; exact k0)
  exact ⟨b2, f, b1, h3⟩
theorem YA.ext {s n tg : Nat} {wt : Nat → Nat} {pr : Nat → Option Nat} (h : YA w m a s n tg wt pr) (k : Kq K w w' m m' a) (k13 : K 13) : YA w' m' a s n tg wt pr := by
  obtain ⟨h1, f, h2, h3⟩ := h
  obtain ⟨b1, b2⟩ := k s _ h2 h1 k13
  exact ⟨b2, f, b1, h3⟩
theorem YS.ext {st n sc : Nat} {tg : Nat → Nat} {wt : Nat → Nat → Nat} {pr : Nat → Nat → Option Nat} (h : YS w m a st n sc tg wt pr) (k : Kq K w w' m m' a) (k30 : K 30) (k5 : K 5) (k13 : K 13) : YS w' m' a st n sc tg wt pr := by
  obtain ⟨l, h1, h2, h3, h4⟩ := h
  exact ⟨l, h1.ext k k30 k5, h2, h3, fun i s hs => (h4 i s hs).ext k k13⟩
theorem YK.ext {p kn ff n E : Nat} {kf : Int32} (h : YK w m a p kn ff kf n E) (k : Kq K w w' m m' a) (k2 : K 2) (k0 : K 0) : YK w' m' a p kn ff kf n E := by
  obtain ⟨h1, h2, h3, kl, kc, fl, fc, h4, h5, hf, h6⟩ := h
  obtain ⟨b1, b2⟩ := k kn _ h4 h1 (by show K (if 2 = 0 ∧ kl = 13 then 13 else 2); rw [if_neg (by omega)]; exact k2)
  obtain ⟨b3, b4⟩ := k ff _ h5 h2 (by show K (if 0 = 0 ∧ fl = 13 then 13 else 0); rw [if_neg (by omega)]; exact k0)
  exact ⟨b2, b4, h3, kl, kc, fl, fc, b1, b3, hf, h6⟩
theorem Yd.ext {Q : Ps} (h : Yd w m a Q) (k : Kq (fun _ => True) w w' m m' a) (hn : Q.n ≤ 6) : Yd w' m' a Q := by
  obtain ⟨e, p, st, kn, ff, kf, h1, h2, h3, h4, h5, h6⟩ := h
  obtain ⟨k1, k2⟩ := k a _ h1 h2 trivial
  exact ⟨e, p, st, kn, ff, kf, k1, k2, YM.ext h3 k trivial trivial, h4.ext k trivial hn, h5.ext k trivial trivial trivial, h6.ext k trivial trivial⟩
end EXT
section YARD
variable {w : Nat → Nat} {W : Wd} {a : Nat} {Q : Ps}
theorem yMany {n e p st kn ff : Nat} {mc kf : Int32} (h : W.cl a = some (yo n e p mc st kn kf ff)) : W.gI a 7 0 = some (nI n) := gI_ h rfl
theorem yEdge {n e p st kn ff : Nat} {mc kf : Int32} (h : W.cl a = some (yo n e p mc st kn kf ff)) : W.gR a 7 1 = some e := gR_ h rfl
theorem yPebs {n e p st kn ff : Nat} {mc kf : Int32} (h : W.cl a = some (yo n e p mc st kn kf ff)) : W.gR a 7 2 = some p := gR_ h rfl
theorem yMoves {n e p st kn ff : Nat} {mc kf : Int32} (h : W.cl a = some (yo n e p mc st kn kf ff)) : W.gI a 7 3 = some mc := gI_ h rfl
theorem yStrs {n e p st kn ff : Nat} {mc kf : Int32} (h : W.cl a = some (yo n e p mc st kn kf ff)) : W.gR a 7 4 = some st := gR_ h rfl
theorem yKnown {n e p st kn ff : Nat} {mc kf : Int32} (h : W.cl a = some (yo n e p mc st kn kf ff)) : W.gR a 7 5 = some kn := gR_ h rfl
theorem yFor {n e p st kn ff : Nat} {mc kf : Int32} (h : W.cl a = some (yo n e p mc st kn kf ff)) : W.gI a 7 6 = some kf := gI_ h rfl
theorem yFar {n e p st kn ff : Nat} {mc kf : Int32} (h : W.cl a = some (yo n e p mc st kn kf ff)) : W.gR a 7 7 = some ff := gR_ h rfl
/-- a row of edges, and one of its truth values -/
theorem yRow {e n E u : Nat} (h : YE w W.cl a e n E) (hn : n ≤ 6) (hu : u < n) : ∃ r f, W.aR e (nI u) = some r ∧ W.cl r = some (.inl (1, n, .inl f)) ∧ w r = a ∧ ∀ v, v < n → W.aB r (nI v) = some (bI (ad E u v)) := by
  obtain ⟨h1, r, er, h2, h3, h4⟩ := h
  obtain ⟨a1, a2, f, a3, a4⟩ := h3 u hu
  refine ⟨r u, f, aR_ h2 (by decide) hu (by omega) a1, a3, a2, fun v hv => ?_⟩
  rw [aB_ a3 (.inl rfl) hv (by omega), a4 v hv]
/-- how many edges -/
def ye (E : Nat) (n : Nat) : Nat := sm (fun v => sm (fun o => if ad E v o then 1 else 0) v) n
theorem yEdges (h : Yd w W.cl a Q) (hn : Q.n ≤ 6) : F_305 W a = some (nI (ye Q.E Q.n)) := by
  obtain ⟨e, p, st, kn, ff, kf, h1, -, h3, -⟩ := h
  have inner : ∀ (u x : Nat), u < Q.n → lw (G_305_14 W a (nI u)) 200000 (nI x, 0) = some (nI (x + sm (fun o => if ad Q.E u o then 1 else 0) u)) := by
    intro u x hu
    obtain ⟨r, f, e1, -, -, e2⟩ := yRow h3 hn hu
    refine lw_seq (fun i => (nI (x + sm (fun o => if ad Q.E u o then 1 else 0) i), nI i)) (n := u) ?_ ?_ (by omega)
    · intro i hi
      simp only [G_305_14]
      rw [if_neg (nI_ge hi (by omega)), yEdge h1, Option.bind_some, e1, Option.bind_some, e2 i (by omega), Option.bind_some]
      unfold J_305_14_j36
      cases hq : ad Q.E u i with
      | true => rw [if_neg (by decide), show (1 : Int32) = nI 1 from rfl, nI_add, nI_add]; show some (Sum.inl (nI (x + sm _ i + 1), nI (i + 1))) = some (Sum.inl (nI (x + (sm _ i + if ad Q.E u i = true then 1 else 0)), nI (i + 1))); rw [hq, if_pos rfl, Nat.add_assoc]
      | false => rw [if_pos (by decide), nI_1, Int32.add_zero]; show some (Sum.inl (nI (x + sm _ i), nI (i + 1))) = some (Sum.inl (nI (x + (sm _ i + if ad Q.E u i = true then 1 else 0)), nI (i + 1))); rw [hq, if_neg (by decide)]; try rfl
    · simp only [G_305_14]
      rw [if_pos (nI_le (Nat.le_refl _) (by omega))]
  have e0 : lw (G_305_4 W a) 200000 (0, 0) = some (nI (ye Q.E Q.n)) := by
    refine lw_seq (fun i => (nI (ye Q.E i), nI i)) (n := Q.n) ?_ ?_ (by omega)
    · intro i hi
      simp only [G_305_4]
      rw [yMany h1, Option.bind_some, if_neg (nI_ge hi (by omega)), inner i _ hi, Option.bind_some, nI_1]
      rfl
    · simp only [G_305_4]
      rw [yMany h1, Option.bind_some, if_pos (nI_le (Nat.le_refl _) (by omega))]
  unfold F_305
  rw [e0]
  rfl
theorem yAll (h : Yd w W.cl a Q) (hn : Q.n ≤ 6) : F_316 W a = some (nI (sm Q.pl Q.n)) := by
  obtain ⟨e, p, st, kn, ff, kf, h1, -, -, ⟨-, f, h4, h5⟩, -⟩ := h
  have e0 : lw (G_316_13 W p (nI Q.n)) 200000 (0, 0) = some (nI (sm Q.pl Q.n)) := by
    refine lw_seq (fun i => (nI (sm Q.pl i), nI i)) (n := Q.n) ?_ ?_ (by omega)
    · intro i hi
      simp only [G_316_13]
      rw [if_neg (nI_ge hi (by omega)), aI_ h4 hi (by omega), Option.bind_some, h5 i hi, nI_add, nI_1]
      rfl
    · simp only [G_316_13]
      rw [if_pos (nI_le (Nat.le_refl _) (by omega))]
  unfold F_316
  rw [yPebs h1, Option.bind_some, ln_ h4 (by decide), Option.bind_some, e0]
  rfl
end YARD
