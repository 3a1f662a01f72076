/-! ===== A RUN GOES ON AS WELL WITH A SLOT FORGOTTEN ===== -/
theorem lq_ii {f : Int32 → Int32 → Int32} {pc : Nat} {ls ls2 : ALs} {st : List Value} {h : AHp} {S : ASt} (hs : am_ii f pc ls st h = some S) : S.2.1 = ls ∧ am_ii f pc ls2 st h = some (S.1, ls2, S.2.2) := by
  delta am_ii at hs ⊢
  try generalize am_SB = sb at hs ⊢
  repeat' (split at hs)
  all_goals first
    | (cases hs; done)
    | (cases hs; exact ⟨rfl, rfl⟩)
    | (cases hs; refine ⟨rfl, ?_⟩; simp_all; done)
    | (cases hs; refine ⟨rfl, ?_⟩; simp_all; intro hx; exfalso; omega)
    | (cases hs; refine ⟨rfl, ?_⟩; grind)
theorem lq_ll {f : Int64 → Int64 → Int64} {pc : Nat} {ls ls2 : ALs} {st : List Value} {h : AHp} {S : ASt} (hs : am_ll f pc ls st h = some S) : S.2.1 = ls ∧ am_ll f pc ls2 st h = some (S.1, ls2, S.2.2) := by
  delta am_ll at hs ⊢
  try generalize am_SB = sb at hs ⊢
  repeat' (split at hs)
  all_goals first
    | (cases hs; done)
    | (cases hs; exact ⟨rfl, rfl⟩)
    | (cases hs; refine ⟨rfl, ?_⟩; simp_all; done)
    | (cases hs; refine ⟨rfl, ?_⟩; simp_all; intro hx; exfalso; omega)
    | (cases hs; refine ⟨rfl, ?_⟩; grind)
theorem lq_li {f : Int64 → Int32 → Int64} {pc : Nat} {ls ls2 : ALs} {st : List Value} {h : AHp} {S : ASt} (hs : am_li f pc ls st h = some S) : S.2.1 = ls ∧ am_li f pc ls2 st h = some (S.1, ls2, S.2.2) := by
  delta am_li at hs ⊢
  try generalize am_SB = sb at hs ⊢
  repeat' (split at hs)
  all_goals first
    | (cases hs; done)
    | (cases hs; exact ⟨rfl, rfl⟩)
    | (cases hs; refine ⟨rfl, ?_⟩; simp_all; done)
    | (cases hs; refine ⟨rfl, ?_⟩; simp_all; intro hx; exfalso; omega)
    | (cases hs; refine ⟨rfl, ?_⟩; grind)
theorem lq_ldc {len : Nat} {pc : Nat} {r1 : Nat} {r2 : Nat} {ls ls2 : ALs} {st : List Value} {h : AHp} {S : ASt} (hs : am_ldc len pc r1 r2 ls st h = some S) : S.2.1 = ls ∧ am_ldc len pc r1 r2 ls2 st h = some (S.1, ls2, S.2.2) := by
  delta am_ldc at hs ⊢
  try generalize am_SB = sb at hs ⊢
  repeat' (split at hs)
  all_goals first
    | (cases hs; done)
    | (cases hs; exact ⟨rfl, rfl⟩)
    | (cases hs; refine ⟨rfl, ?_⟩; simp_all; done)
    | (cases hs; refine ⟨rfl, ?_⟩; simp_all; intro hx; exfalso; omega)
    | (cases hs; refine ⟨rfl, ?_⟩; grind)
theorem lq_get {pc : Nat} {r1 : Nat} {r2 : Nat} {ls ls2 : ALs} {st : List Value} {h : AHp} {S : ASt} (hs : am_get pc r1 r2 ls st h = some S) : S.2.1 = ls ∧ am_get pc r1 r2 ls2 st h = some (S.1, ls2, S.2.2) := by
  delta am_get at hs ⊢
  rcases st with _ | ⟨v, r⟩
  · cases hs
  cases v with
  | ref a =>
    dsimp only at hs ⊢
    by_cases h1 : a < am_SB
    · rw [if_pos h1] at hs ⊢
      generalize h[a]? = qq at hs ⊢
      rcases qq with _ | ⟨_ | ⟨ci, fs⟩⟩
      · cases hs
      · cases hs
      · dsimp only at hs ⊢
        by_cases h2 : ci = r1
        · rw [if_pos h2] at hs ⊢
          generalize fs[r2]? = qq at hs ⊢
          rcases qq with _ | v
          · cases hs
          · cases hs; exact ⟨rfl, rfl⟩
        · rw [if_neg h2] at hs; cases hs
    · rw [if_neg h1] at hs ⊢
      by_cases h2 : am_isT a ∧ r1 = 8
      · rw [if_pos h2] at hs ⊢
        rcases r2 with _ | _ | r2
        · cases hs; exact ⟨rfl, rfl⟩
        · cases hs; exact ⟨rfl, rfl⟩
        · cases hs
      · rw [if_neg h2] at hs; cases hs
  | _ => cases hs
theorem lq_put {pc : Nat} {r1 : Nat} {r2 : Nat} {ls ls2 : ALs} {st : List Value} {h : AHp} {S : ASt} (hs : am_put pc r1 r2 ls st h = some S) : S.2.1 = ls ∧ am_put pc r1 r2 ls2 st h = some (S.1, ls2, S.2.2) := by
  delta am_put at hs ⊢
  try generalize am_SB = sb at hs ⊢
  repeat' (split at hs)
  all_goals first
    | (cases hs; done)
    | (cases hs; exact ⟨rfl, rfl⟩)
    | (cases hs; refine ⟨rfl, ?_⟩; simp_all; done)
    | (cases hs; refine ⟨rfl, ?_⟩; simp_all; intro hx; exfalso; omega)
    | (cases hs; refine ⟨rfl, ?_⟩; grind)
theorem lq_static {pc : Nat} {r1 : Nat} {ls ls2 : ALs} {st : List Value} {h : AHp} {S : ASt} (hs : am_static pc r1 ls st h = some S) : S.2.1 = ls ∧ am_static pc r1 ls2 st h = some (S.1, ls2, S.2.2) := by
  delta am_static at hs ⊢
  try generalize am_SB = sb at hs ⊢
  repeat' (split at hs)
  all_goals first
    | (cases hs; done)
    | (cases hs; exact ⟨rfl, rfl⟩)
    | (cases hs; refine ⟨rfl, ?_⟩; simp_all; done)
    | (cases hs; refine ⟨rfl, ?_⟩; simp_all; intro hx; exfalso; omega)
    | (cases hs; refine ⟨rfl, ?_⟩; grind)
theorem lq_iald {scr : ASc} {pc : Nat} {ls ls2 : ALs} {st : List Value} {h : AHp} {S : ASt} (hs : am_iald scr pc ls st h = some S) : S.2.1 = ls ∧ am_iald scr pc ls2 st h = some (S.1, ls2, S.2.2) := by
  delta am_iald at hs ⊢
  try generalize am_SB = sb at hs ⊢
  repeat' (split at hs)
  all_goals first
    | (cases hs; done)
    | (cases hs; exact ⟨rfl, rfl⟩)
    | (cases hs; refine ⟨rfl, ?_⟩; simp_all; done)
    | (cases hs; refine ⟨rfl, ?_⟩; simp_all; intro hx; exfalso; omega)
    | (cases hs; refine ⟨rfl, ?_⟩; grind)
theorem lq_bald {pc : Nat} {ls ls2 : ALs} {st : List Value} {h : AHp} {S : ASt} (hs : am_bald pc ls st h = some S) : S.2.1 = ls ∧ am_bald pc ls2 st h = some (S.1, ls2, S.2.2) := by
  delta am_bald at hs ⊢
  try generalize am_SB = sb at hs ⊢
  repeat' (split at hs)
  all_goals first
    | (cases hs; done)
    | (cases hs; exact ⟨rfl, rfl⟩)
    | (cases hs; refine ⟨rfl, ?_⟩; simp_all; done)
    | (cases hs; refine ⟨rfl, ?_⟩; simp_all; intro hx; exfalso; omega)
    | (cases hs; refine ⟨rfl, ?_⟩; grind)
theorem lq_aald {pc : Nat} {ls ls2 : ALs} {st : List Value} {h : AHp} {S : ASt} (hs : am_aald pc ls st h = some S) : S.2.1 = ls ∧ am_aald pc ls2 st h = some (S.1, ls2, S.2.2) := by
  delta am_aald at hs ⊢
  try generalize am_SB = sb at hs ⊢
  repeat' (split at hs)
  all_goals first
    | (cases hs; done)
    | (cases hs; exact ⟨rfl, rfl⟩)
    | (cases hs; refine ⟨rfl, ?_⟩; simp_all; done)
    | (cases hs; refine ⟨rfl, ?_⟩; simp_all; intro hx; exfalso; omega)
    | (cases hs; refine ⟨rfl, ?_⟩; grind)
theorem lq_iast {pc : Nat} {ls ls2 : ALs} {st : List Value} {h : AHp} {S : ASt} (hs : am_iast pc ls st h = some S) : S.2.1 = ls ∧ am_iast pc ls2 st h = some (S.1, ls2, S.2.2) := by
  delta am_iast at hs ⊢
  try generalize am_SB = sb at hs ⊢
  repeat' (split at hs)
  all_goals first
    | (cases hs; done)
    | (cases hs; exact ⟨rfl, rfl⟩)
    | (cases hs; refine ⟨rfl, ?_⟩; simp_all; done)
    | (cases hs; refine ⟨rfl, ?_⟩; simp_all; intro hx; exfalso; omega)
    | (cases hs; refine ⟨rfl, ?_⟩; grind)
theorem lq_bast {pc : Nat} {ls ls2 : ALs} {st : List Value} {h : AHp} {S : ASt} (hs : am_bast pc ls st h = some S) : S.2.1 = ls ∧ am_bast pc ls2 st h = some (S.1, ls2, S.2.2) := by
  delta am_bast at hs ⊢
  try generalize am_SB = sb at hs ⊢
  repeat' (split at hs)
  all_goals first
    | (cases hs; done)
    | (cases hs; exact ⟨rfl, rfl⟩)
    | (cases hs; refine ⟨rfl, ?_⟩; simp_all; done)
    | (cases hs; refine ⟨rfl, ?_⟩; simp_all; intro hx; exfalso; omega)
    | (cases hs; refine ⟨rfl, ?_⟩; grind)
theorem lq_aast {pc : Nat} {ls ls2 : ALs} {st : List Value} {h : AHp} {S : ASt} (hs : am_aast pc ls st h = some S) : S.2.1 = ls ∧ am_aast pc ls2 st h = some (S.1, ls2, S.2.2) := by
  delta am_aast at hs ⊢
  try generalize am_SB = sb at hs ⊢
  repeat' (split at hs)
  all_goals first
    | (cases hs; done)
    | (cases hs; exact ⟨rfl, rfl⟩)
    | (cases hs; refine ⟨rfl, ?_⟩; simp_all; done)
    | (cases hs; refine ⟨rfl, ?_⟩; simp_all; intro hx; exfalso; omega)
    | (cases hs; refine ⟨rfl, ?_⟩; grind)
theorem lq_alen {scr : ASc} {pc : Nat} {ls ls2 : ALs} {st : List Value} {h : AHp} {S : ASt} (hs : am_alen scr pc ls st h = some S) : S.2.1 = ls ∧ am_alen scr pc ls2 st h = some (S.1, ls2, S.2.2) := by
  delta am_alen at hs ⊢
  rcases st with _ | ⟨v, r⟩
  · cases hs
  cases v with
  | ref a =>
    dsimp only at hs ⊢
    by_cases h1 : a < am_SB
    · rw [if_pos h1] at hs ⊢
      generalize h[a]? = qq at hs ⊢
      rcases qq with _ | ⟨⟨t, n, A⟩ | _⟩
      · cases hs
      · dsimp only at hs ⊢
        by_cases h2 : t < 8
        · rw [if_pos h2] at hs ⊢
          cases hs; exact ⟨rfl, rfl⟩
        · rw [if_neg h2] at hs; cases hs
      · cases hs
    · rw [if_neg h1] at hs ⊢
      by_cases h2 : a = am_SB
      · rw [if_pos h2] at hs ⊢
        rcases scr with _ | ⟨n, f⟩
        · cases hs
        · cases hs; exact ⟨rfl, rfl⟩
      · rw [if_neg h2] at hs ⊢
        by_cases h3 : a = am_SB + 2
        · rw [if_pos h3] at hs ⊢
          cases hs; exact ⟨rfl, rfl⟩
        · rw [if_neg h3] at hs ⊢
          generalize am_oa a = qq at hs ⊢
          rcases qq with _ | ⟨n, f⟩
          · cases hs
          · cases hs; exact ⟨rfl, rfl⟩
  | _ => cases hs
theorem lq_new {pc : Nat} {r1 : Nat} {ls ls2 : ALs} {st : List Value} {h : AHp} {S : ASt} (hs : am_new pc r1 ls st h = some S) : S.2.1 = ls ∧ am_new pc r1 ls2 st h = some (S.1, ls2, S.2.2) := by
  delta am_new at hs ⊢
  try generalize am_SB = sb at hs ⊢
  repeat' (split at hs)
  all_goals first
    | (cases hs; done)
    | (cases hs; exact ⟨rfl, rfl⟩)
    | (cases hs; refine ⟨rfl, ?_⟩; simp_all; done)
    | (cases hs; refine ⟨rfl, ?_⟩; simp_all; intro hx; exfalso; omega)
    | (cases hs; refine ⟨rfl, ?_⟩; grind)
theorem lq_newa {t : ArrayType} {pc : Nat} {ls ls2 : ALs} {st : List Value} {h : AHp} {S : ASt} (hs : am_newa t pc ls st h = some S) : S.2.1 = ls ∧ am_newa t pc ls2 st h = some (S.1, ls2, S.2.2) := by
  delta am_newa at hs ⊢
  try generalize am_SB = sb at hs ⊢
  repeat' (split at hs)
  all_goals first
    | (cases hs; done)
    | (cases hs; exact ⟨rfl, rfl⟩)
    | (cases hs; refine ⟨rfl, ?_⟩; simp_all; done)
    | (cases hs; refine ⟨rfl, ?_⟩; simp_all; intro hx; exfalso; omega)
    | (cases hs; refine ⟨rfl, ?_⟩; grind)
theorem lq_newq {pc : Nat} {r1 : Nat} {ls ls2 : ALs} {st : List Value} {h : AHp} {S : ASt} (hs : am_newq pc r1 ls st h = some S) : S.2.1 = ls ∧ am_newq pc r1 ls2 st h = some (S.1, ls2, S.2.2) := by
  delta am_newq at hs ⊢
  try generalize am_SB = sb at hs ⊢
  repeat' (split at hs)
  all_goals first
    | (cases hs; done)
    | (cases hs; exact ⟨rfl, rfl⟩)
    | (cases hs; refine ⟨rfl, ?_⟩; simp_all; done)
    | (cases hs; refine ⟨rfl, ?_⟩; simp_all; intro hx; exfalso; omega)
    | (cases hs; refine ⟨rfl, ?_⟩; grind)
theorem lq_copy {pc : Nat} {ls ls2 : ALs} {st : List Value} {h : AHp} {S : ASt} (hs : am_copy pc ls st h = some S) : S.2.1 = ls ∧ am_copy pc ls2 st h = some (S.1, ls2, S.2.2) := by
  have key : ∀ ls : ALs, am_copy pc ls st h = (am_copy pc [] st h).map fun S => (S.1, ls, S.2.2) := by
    intro ls
    rcases st with _ | ⟨v1, _ | ⟨v2, _ | ⟨v3, _ | ⟨v4, _ | ⟨v5, r⟩⟩⟩⟩⟩ <;> try rfl
    · cases v1 <;> rfl
    · cases v1 <;> cases v2 <;> rfl
    · cases v1 <;> cases v2 <;> cases v3 <;> rfl
    · cases v1 <;> try rfl
      cases v2 <;> try rfl
      cases v3 <;> try rfl
      cases v4 <;> rfl
    · cases v1 <;> try rfl
      cases v2 <;> try rfl
      cases v3 <;> try rfl
      cases v4 <;> try rfl
      cases v5 <;> try rfl
      rename_i n dp a sp b
      delta am_copy
      dsimp only
      by_cases h1 : a < am_SB ∧ (r.map Value.category).sum ≤ 8
      · rw [if_pos h1, if_pos h1]
        by_cases h2 : b < am_SB
        · rw [if_pos h2, if_pos h2]
          rcases h[b]? with _ | ⟨⟨t, n0, f | f | f | f | f⟩ | _⟩ <;> try rfl
          · rcases h[a]? with _ | ⟨⟨u, n1, g | g | g | g | g⟩ | _⟩ <;> try rfl
            dsimp only
            split <;> rfl
          · rcases h[a]? with _ | ⟨⟨u, n1, g | g | g | g | g⟩ | _⟩ <;> try rfl
            dsimp only
            split <;> rfl
        · rw [if_neg h2, if_neg h2]
          rcases am_oa b with _ | ⟨n0, f⟩ <;> try rfl
          rcases h[a]? with _ | ⟨⟨u, n1, g | g | g | g | g⟩ | _⟩ <;> try rfl
          dsimp only
          split <;> rfl
      · rw [if_neg h1, if_neg h1]; rfl
  rw [key] at hs ⊢
  cases hq : am_copy pc [] st h with
  | none => rw [hq] at hs; cases hs
  | some T => rw [hq] at hs; cases hs; exact ⟨rfl, rfl⟩
theorem lq_tsw {pc : Nat} {dflt : Int} {lo : Int} {hi : Int} {offs : Array Int} {ls ls2 : ALs} {st : List Value} {h : AHp} {S : ASt} (hs : am_tsw pc dflt lo hi offs ls st h = some S) : S.2.1 = ls ∧ am_tsw pc dflt lo hi offs ls2 st h = some (S.1, ls2, S.2.2) := by
  delta am_tsw at hs ⊢
  try generalize am_SB = sb at hs ⊢
  repeat' (split at hs)
  all_goals first
    | (cases hs; done)
    | (cases hs; exact ⟨rfl, rfl⟩)
    | (cases hs; refine ⟨rfl, ?_⟩; simp_all; done)
    | (cases hs; refine ⟨rfl, ?_⟩; simp_all; intro hx; exfalso; omega)
    | (cases hs; refine ⟨rfl, ?_⟩; grind)
theorem lq_dup {pc : Nat} {ls ls2 : ALs} {st : List Value} {h : AHp} {S : ASt} (hs : am_dup pc ls st h = some S) : S.2.1 = ls ∧ am_dup pc ls2 st h = some (S.1, ls2, S.2.2) := by
  delta am_dup at hs ⊢
  try generalize am_SB = sb at hs ⊢
  repeat' (split at hs)
  all_goals first
    | (cases hs; done)
    | (cases hs; exact ⟨rfl, rfl⟩)
    | (cases hs; refine ⟨rfl, ?_⟩; simp_all; done)
    | (cases hs; refine ⟨rfl, ?_⟩; simp_all; intro hx; exfalso; omega)
    | (cases hs; refine ⟨rfl, ?_⟩; grind)
theorem lq_dup2 {pc : Nat} {ls ls2 : ALs} {st : List Value} {h : AHp} {S : ASt} (hs : am_dup2 pc ls st h = some S) : S.2.1 = ls ∧ am_dup2 pc ls2 st h = some (S.1, ls2, S.2.2) := by
  delta am_dup2 at hs ⊢
  try generalize am_SB = sb at hs ⊢
  repeat' (split at hs)
  all_goals first
    | (cases hs; done)
    | (cases hs; exact ⟨rfl, rfl⟩)
    | (cases hs; refine ⟨rfl, ?_⟩; simp_all; done)
    | (cases hs; refine ⟨rfl, ?_⟩; simp_all; intro hx; exfalso; omega)
    | (cases hs; refine ⟨rfl, ?_⟩; grind)
theorem lq_pop {pc : Nat} {ls ls2 : ALs} {st : List Value} {h : AHp} {S : ASt} (hs : am_pop pc ls st h = some S) : S.2.1 = ls ∧ am_pop pc ls2 st h = some (S.1, ls2, S.2.2) := by
  delta am_pop at hs ⊢
  try generalize am_SB = sb at hs ⊢
  repeat' (split at hs)
  all_goals first
    | (cases hs; done)
    | (cases hs; exact ⟨rfl, rfl⟩)
    | (cases hs; refine ⟨rfl, ?_⟩; simp_all; done)
    | (cases hs; refine ⟨rfl, ?_⟩; simp_all; intro hx; exfalso; omega)
    | (cases hs; refine ⟨rfl, ?_⟩; grind)
theorem lq_z {cnd : ClassFile.Cond} {pc : Nat} {tgt : Nat} {ls ls2 : ALs} {st : List Value} {h : AHp} {S : ASt} (hs : am_z cnd pc tgt ls st h = some S) : S.2.1 = ls ∧ am_z cnd pc tgt ls2 st h = some (S.1, ls2, S.2.2) := by
  delta am_z am_if at hs ⊢
  try generalize am_SB = sb at hs ⊢
  repeat' (split at hs)
  all_goals first
    | (cases hs; done)
    | (cases hs; exact ⟨rfl, rfl⟩)
    | (cases hs; refine ⟨rfl, ?_⟩; simp_all; done)
    | (cases hs; refine ⟨rfl, ?_⟩; simp_all; intro hx; exfalso; omega)
    | (cases hs; refine ⟨rfl, ?_⟩; grind)
theorem lq_c2 {cnd : ClassFile.Cond} {pc : Nat} {tgt : Nat} {ls ls2 : ALs} {st : List Value} {h : AHp} {S : ASt} (hs : am_c2 cnd pc tgt ls st h = some S) : S.2.1 = ls ∧ am_c2 cnd pc tgt ls2 st h = some (S.1, ls2, S.2.2) := by
  delta am_c2 am_if at hs ⊢
  try generalize am_SB = sb at hs ⊢
  repeat' (split at hs)
  all_goals first
    | (cases hs; done)
    | (cases hs; exact ⟨rfl, rfl⟩)
    | (cases hs; refine ⟨rfl, ?_⟩; simp_all; done)
    | (cases hs; refine ⟨rfl, ?_⟩; simp_all; intro hx; exfalso; omega)
    | (cases hs; refine ⟨rfl, ?_⟩; grind)
theorem lq_nul {tn : Nat} {tr : Nat} {ls ls2 : ALs} {st : List Value} {h : AHp} {S : ASt} (hs : am_nul tn tr ls st h = some S) : S.2.1 = ls ∧ am_nul tn tr ls2 st h = some (S.1, ls2, S.2.2) := by
  delta am_nul at hs ⊢
  try generalize am_SB = sb at hs ⊢
  repeat' (split at hs)
  all_goals first
    | (cases hs; done)
    | (cases hs; exact ⟨rfl, rfl⟩)
    | (cases hs; refine ⟨rfl, ?_⟩; simp_all; done)
    | (cases hs; refine ⟨rfl, ?_⟩; simp_all; intro hx; exfalso; omega)
    | (cases hs; refine ⟨rfl, ?_⟩; grind)
theorem lq_i1 {f : Int32 → Value} {pc : Nat} {ls ls2 : ALs} {st : List Value} {h : AHp} {S : ASt} (hs : am_i1 f pc ls st h = some S) : S.2.1 = ls ∧ am_i1 f pc ls2 st h = some (S.1, ls2, S.2.2) := by
  delta am_i1 at hs ⊢
  try generalize am_SB = sb at hs ⊢
  repeat' (split at hs)
  all_goals first
    | (cases hs; done)
    | (cases hs; exact ⟨rfl, rfl⟩)
    | (cases hs; refine ⟨rfl, ?_⟩; simp_all; done)
    | (cases hs; refine ⟨rfl, ?_⟩; simp_all; intro hx; exfalso; omega)
    | (cases hs; refine ⟨rfl, ?_⟩; grind)
theorem lq_l2i {pc : Nat} {ls ls2 : ALs} {st : List Value} {h : AHp} {S : ASt} (hs : am_l2i pc ls st h = some S) : S.2.1 = ls ∧ am_l2i pc ls2 st h = some (S.1, ls2, S.2.2) := by
  delta am_l2i at hs ⊢
  try generalize am_SB = sb at hs ⊢
  repeat' (split at hs)
  all_goals first
    | (cases hs; done)
    | (cases hs; exact ⟨rfl, rfl⟩)
    | (cases hs; refine ⟨rfl, ?_⟩; simp_all; done)
    | (cases hs; refine ⟨rfl, ?_⟩; simp_all; intro hx; exfalso; omega)
    | (cases hs; refine ⟨rfl, ?_⟩; grind)
theorem lq_lcmp {pc : Nat} {ls ls2 : ALs} {st : List Value} {h : AHp} {S : ASt} (hs : am_lcmp pc ls st h = some S) : S.2.1 = ls ∧ am_lcmp pc ls2 st h = some (S.1, ls2, S.2.2) := by
  delta am_lcmp at hs ⊢
  try generalize am_SB = sb at hs ⊢
  repeat' (split at hs)
  all_goals first
    | (cases hs; done)
    | (cases hs; exact ⟨rfl, rfl⟩)
    | (cases hs; refine ⟨rfl, ?_⟩; simp_all; done)
    | (cases hs; refine ⟨rfl, ?_⟩; simp_all; intro hx; exfalso; omega)
    | (cases hs; refine ⟨rfl, ?_⟩; grind)
theorem lq_dv {f : Int32 → Int32 → Int32} {pc : Nat} {ls ls2 : ALs} {st : List Value} {h : AHp} {S : ASt} (hs : am_dv f pc ls st h = some S) : S.2.1 = ls ∧ am_dv f pc ls2 st h = some (S.1, ls2, S.2.2) := by
  delta am_dv at hs ⊢
  try generalize am_SB = sb at hs ⊢
  repeat' (split at hs)
  all_goals first
    | (cases hs; done)
    | (cases hs; exact ⟨rfl, rfl⟩)
    | (cases hs; refine ⟨rfl, ?_⟩; simp_all; done)
    | (cases hs; refine ⟨rfl, ?_⟩; simp_all; intro hx; exfalso; omega)
    | (cases hs; refine ⟨rfl, ?_⟩; grind)
theorem lq_m2 {f : Int32 → Int32 → Int32} {pc : Nat} {ls ls2 : ALs} {st : List Value} {h : AHp} {S : ASt} (hs : am_m2 f pc ls st h = some S) : S.2.1 = ls ∧ am_m2 f pc ls2 st h = some (S.1, ls2, S.2.2) := by
  delta am_m2 at hs ⊢
  try generalize am_SB = sb at hs ⊢
  repeat' (split at hs)
  all_goals first
    | (cases hs; done)
    | (cases hs; exact ⟨rfl, rfl⟩)
    | (cases hs; refine ⟨rfl, ?_⟩; simp_all; done)
    | (cases hs; refine ⟨rfl, ?_⟩; simp_all; intro hx; exfalso; omega)
    | (cases hs; refine ⟨rfl, ?_⟩; grind)
theorem lq_obj {pc : Nat} {ls ls2 : ALs} {st : List Value} {h : AHp} {S : ASt} (hs : am_obj pc ls st h = some S) : S.2.1 = ls ∧ am_obj pc ls2 st h = some (S.1, ls2, S.2.2) := by
  delta am_obj at hs ⊢
  try generalize am_SB = sb at hs ⊢
  repeat' (split at hs)
  all_goals first
    | (cases hs; done)
    | (cases hs; exact ⟨rfl, rfl⟩)
    | (cases hs; refine ⟨rfl, ?_⟩; simp_all; done)
    | (cases hs; refine ⟨rfl, ?_⟩; simp_all; intro hx; exfalso; omega)
    | (cases hs; refine ⟨rfl, ?_⟩; grind)
theorem lq_newm {pc r1 : Nat} {ls ls2 : ALs} {st : List Value} {h : AHp} {S : ASt} (hs : am_newm pc r1 ls st h = some S) : S.2.1 = ls ∧ am_newm pc r1 ls2 st h = some (S.1, ls2, S.2.2) := by
  delta am_newm at hs ⊢
  try generalize am_SB = sb at hs ⊢
  repeat' (split at hs)
  all_goals first
    | (cases hs; done)
    | (cases hs; exact ⟨rfl, rfl⟩)
    | (cases hs; refine ⟨rfl, ?_⟩; simp_all; done)
    | (cases hs; refine ⟨rfl, ?_⟩; simp_all; intro hx; exfalso; omega)
    | (cases hs; refine ⟨rfl, ?_⟩; grind)
theorem lq_clone {t pc : Nat} {ls ls2 : ALs} {st : List Value} {h : AHp} {S : ASt} (hs : am_clone t pc ls st h = some S) : S.2.1 = ls ∧ am_clone t pc ls2 st h = some (S.1, ls2, S.2.2) := by
  delta am_clone at hs ⊢
  try generalize am_SB = sb at hs ⊢
  repeat' (split at hs)
  all_goals first
    | (cases hs; done)
    | (cases hs; exact ⟨rfl, rfl⟩)
    | (cases hs; refine ⟨rfl, ?_⟩; simp_all; done)
    | (cases hs; refine ⟨rfl, ?_⟩; simp_all; intro hx; exfalso; omega)
    | (cases hs; refine ⟨rfl, ?_⟩; grind)
theorem lq_cast {pc r1 : Nat} {ls ls2 : ALs} {st : List Value} {h : AHp} {S : ASt} (hs : am_cast pc r1 ls st h = some S) : S.2.1 = ls ∧ am_cast pc r1 ls2 st h = some (S.1, ls2, S.2.2) := by
  delta am_cast at hs ⊢
  try generalize am_SB = sb at hs ⊢
  repeat' (split at hs)
  all_goals first
    | (cases hs; done)
    | (cases hs; exact ⟨rfl, rfl⟩)
    | (cases hs; refine ⟨rfl, ?_⟩; simp_all; done)
    | (cases hs; refine ⟨rfl, ?_⟩; simp_all; intro hx; exfalso; omega)
    | (cases hs; refine ⟨rfl, ?_⟩; grind)
theorem lq_acq {pc tgt : Nat} {ls ls2 : ALs} {st : List Value} {h : AHp} {S : ASt} (hs : am_acq pc tgt ls st h = some S) : S.2.1 = ls ∧ am_acq pc tgt ls2 st h = some (S.1, ls2, S.2.2) := by
  delta am_acq at hs ⊢
  try generalize am_SB = sb at hs ⊢
  repeat' (split at hs)
  all_goals first
    | (cases hs; done)
    | (cases hs; exact ⟨rfl, rfl⟩)
    | (cases hs; refine ⟨rfl, ?_⟩; simp_all; done)
    | (cases hs; refine ⟨rfl, ?_⟩; simp_all; intro hx; exfalso; omega)
    | (cases hs; refine ⟨rfl, ?_⟩; grind)
theorem lq_dup1 {pc : Nat} {ls ls2 : ALs} {st : List Value} {h : AHp} {S : ASt} (hs : am_dup1 pc ls st h = some S) : S.2.1 = ls ∧ am_dup1 pc ls2 st h = some (S.1, ls2, S.2.2) := by
  delta am_dup1 at hs ⊢
  try generalize am_SB = sb at hs ⊢
  repeat' (split at hs)
  all_goals first
    | (cases hs; done)
    | (cases hs; exact ⟨rfl, rfl⟩)
    | (cases hs; refine ⟨rfl, ?_⟩; simp_all; done)
    | (cases hs; refine ⟨rfl, ?_⟩; simp_all; intro hx; exfalso; omega)
    | (cases hs; refine ⟨rfl, ?_⟩; grind)
theorem am_step_lq {scr : ASc} {E : AEn} {ls ls2 : ALs} {st : List Value} {h : AHp} {S : ASt} (q : Lq ls ls2) (hs : am_step scr E ls st h = some S) : ∃ ls3, am_step scr E ls2 st h = some (S.1, ls3, S.2.2) ∧ Lq S.2.1 ls3 := by
  have P : ∀ {o : ALs → Option ASt}, (∀ S : ASt, o ls = some S → S.2.1 = ls ∧ o ls2 = some (S.1, ls2, S.2.2)) → o ls = some S → ∃ ls3, o ls2 = some (S.1, ls3, S.2.2) ∧ Lq S.2.1 ls3 := fun ho h1 => by
    obtain ⟨h2, h3⟩ := ho S h1
    exact ⟨ls2, h3, h2 ▸ q⟩
  have LI : ∀ {i len pc : Nat} {st : List Value} {h : AHp} {S : ASt}, am_ldi i len pc ls st h = some S → ∃ ls3, am_ldi i len pc ls2 st h = some (S.1, ls3, S.2.2) ∧ Lq S.2.1 ls3 := fun h1 => by
    delta am_ldi at h1 ⊢
    split at h1
    · next x hx => cases h1; rw [q.2 _ _ hx]; exact ⟨ls2, rfl, q⟩
    · cases h1
  have LL : ∀ {i len pc : Nat} {st : List Value} {h : AHp} {S : ASt}, am_ldl i len pc ls st h = some S → ∃ ls3, am_ldl i len pc ls2 st h = some (S.1, ls3, S.2.2) ∧ Lq S.2.1 ls3 := fun h1 => by
    delta am_ldl at h1 ⊢
    split at h1
    · next x hx => cases h1; rw [q.2 _ _ hx]; exact ⟨ls2, rfl, q⟩
    · cases h1
  have LA : ∀ {i len pc : Nat} {st : List Value} {h : AHp} {S : ASt}, am_lda i len pc ls st h = some S → ∃ ls3, am_lda i len pc ls2 st h = some (S.1, ls3, S.2.2) ∧ Lq S.2.1 ls3 := fun h1 => by
    delta am_lda at h1 ⊢
    split at h1
    · next x hx =>
      cases h1; rw [q.2 _ _ hx]; exact ⟨ls2, rfl, q⟩
    · next hx => cases h1; rw [q.2 _ _ hx]; exact ⟨ls2, rfl, q⟩
    · cases h1
  have SI : ∀ {i len pc : Nat} {st : List Value} {h : AHp} {S : ASt}, am_sti i len pc ls st h = some S → ∃ ls3, am_sti i len pc ls2 st h = some (S.1, ls3, S.2.2) ∧ Lq S.2.1 ls3 := fun h1 => by
    delta am_sti at h1 ⊢
    rw [q.1] at h1
    split at h1
    · split at h1
      · next hi => cases h1; dsimp only; rw [if_pos hi]; exact ⟨_, rfl, q.set1 _ _⟩
      · cases h1
    · cases h1
  have SL : ∀ {i len pc : Nat} {st : List Value} {h : AHp} {S : ASt}, am_stl i len pc ls st h = some S → ∃ ls3, am_stl i len pc ls2 st h = some (S.1, ls3, S.2.2) ∧ Lq S.2.1 ls3 := fun h1 => by
    delta am_stl at h1 ⊢
    rw [q.1] at h1
    split at h1
    · split at h1
      · next hi => cases h1; dsimp only; rw [if_pos hi]; exact ⟨_, rfl, q.set2 _ _⟩
      · cases h1
    · cases h1
  have SA : ∀ {i len pc : Nat} {st : List Value} {h : AHp} {S : ASt}, am_sta i len pc ls st h = some S → ∃ ls3, am_sta i len pc ls2 st h = some (S.1, ls3, S.2.2) ∧ Lq S.2.1 ls3 := fun h1 => by
    delta am_sta at h1 ⊢
    rw [q.1] at h1
    split at h1
    · split at h1
      · next hi => cases h1; dsimp only; rw [if_pos hi]; exact ⟨_, rfl, q.set1 _ _⟩
      · cases h1
    · split at h1
      · next hi => cases h1; dsimp only; rw [if_pos hi]; exact ⟨_, rfl, q.set1 _ _⟩
      · cases h1
    · cases h1
  have IN : ∀ {i : Nat} {n : Int} {pc : Nat} {st : List Value} {h : AHp} {S : ASt}, am_inc i n pc ls st h = some S → ∃ ls3, am_inc i n pc ls2 st h = some (S.1, ls3, S.2.2) ∧ Lq S.2.1 ls3 := fun h1 => by
    delta am_inc at h1 ⊢
    split at h1
    · next x hx => cases h1; rw [q.2 _ _ hx]; exact ⟨_, rfl, q.set1 _ _⟩
    · cases h1
  obtain ⟨pc, i, r1, r2⟩ := E
  cases i
  case getfield a => exact P (o := fun ls => am_get pc r1 r2 ls st h) (fun _ h => lq_get h) hs
  case putfield a => exact P (o := fun ls => am_put pc r1 r2 ls st h) (fun _ h => lq_put h) hs
  case getstatic a => exact P (o := fun ls => am_static pc r1 ls st h) (fun _ h => lq_static h) hs
  case iaload => exact P (o := fun ls => am_iald scr pc ls st h) (fun _ h => lq_iald h) hs
  case baload => exact P (o := fun ls => am_bald pc ls st h) (fun _ h => lq_bald h) hs
  case aaload => exact P (o := fun ls => am_aald pc ls st h) (fun _ h => lq_aald h) hs
  case iastore => exact P (o := fun ls => am_iast pc ls st h) (fun _ h => lq_iast h) hs
  case bastore => exact P (o := fun ls => am_bast pc ls st h) (fun _ h => lq_bast h) hs
  case checkcast a => exact P (o := fun ls => am_cast pc r1 ls st h) (fun _ h => lq_cast h) hs
  case multianewarray a b => exact P (o := fun ls => am_newm pc r1 ls st h) (fun _ h => lq_newm h) hs
  case dup_x1 => exact P (o := fun ls => am_dup1 pc ls st h) (fun _ h => lq_dup1 h) hs
  case if_acmp cnd a =>
    cases cnd <;> first
      | (cases hs; done)
      | exact P (o := fun ls => am_acq pc r1 ls st h) (fun _ h => lq_acq h) hs
  case invokevirtual a =>
    delta am_step at hs ⊢
    dsimp only at hs ⊢
    split at hs
    · next h1 => rw [if_pos h1]; exact P (o := fun ls => am_clone 0 pc ls st h) (fun _ h => lq_clone h) hs
    · next h1 => rw [if_neg h1]; exact P (o := fun ls => am_clone 2 pc ls st h) (fun _ h => lq_clone h) hs
  case aastore => exact P (o := fun ls => am_aast pc ls st h) (fun _ h => lq_aast h) hs
  case arraylength => exact P (o := fun ls => am_alen scr pc ls st h) (fun _ h => lq_alen h) hs
  case new a => exact P (o := fun ls => am_new pc r1 ls st h) (fun _ h => lq_new h) hs
  case newarray a => exact P (o := fun ls => am_newa a pc ls st h) (fun _ h => lq_newa h) hs
  case anewarray a => exact P (o := fun ls => am_newq pc r1 ls st h) (fun _ h => lq_newq h) hs
  case invokespecial a => exact P (o := fun ls => am_obj pc ls st h) (fun _ h => lq_obj h) hs
  all_goals first
    | (cases hs; done)
    | exact LI hs
    | exact LL hs
    | exact LA hs
    | exact SI hs
    | exact SL hs
    | exact SA hs
    | exact IN hs
    | (cases hs; exact ⟨ls2, rfl, q⟩)
    | exact P (o := fun ls => am_ii _ _ ls _ _) (fun _ h => lq_ii h) hs
    | exact P (o := fun ls => am_ll _ _ ls _ _) (fun _ h => lq_ll h) hs
    | exact P (o := fun ls => am_li _ _ ls _ _) (fun _ h => lq_li h) hs
    | exact P (o := fun ls => am_ldc _ _ _ _ ls _ _) (fun _ h => lq_ldc h) hs
    | exact P (o := fun ls => am_tsw _ _ _ _ _ ls _ _) (fun _ h => lq_tsw h) hs
    | exact P (o := fun ls => am_dup _ ls _ _) (fun _ h => lq_dup h) hs
    | exact P (o := fun ls => am_dup2 _ ls _ _) (fun _ h => lq_dup2 h) hs
    | exact P (o := fun ls => am_pop _ ls _ _) (fun _ h => lq_pop h) hs
    | exact P (o := fun ls => am_z _ _ _ ls _ _) (fun _ h => lq_z h) hs
    | exact P (o := fun ls => am_c2 _ _ _ ls _ _) (fun _ h => lq_c2 h) hs
    | exact P (o := fun ls => am_nul _ _ ls _ _) (fun _ h => lq_nul h) hs
    | exact P (o := fun ls => am_i1 _ _ ls _ _) (fun _ h => lq_i1 h) hs
    | exact P (o := fun ls => am_l2i _ ls _ _) (fun _ h => lq_l2i h) hs
    | exact P (o := fun ls => am_lcmp _ ls _ _) (fun _ h => lq_lcmp h) hs
    | exact P (o := fun ls => am_dv _ _ ls _ _) (fun _ h => lq_dv h) hs
    | (delta am_step at hs ⊢
       dsimp only at hs ⊢
       split at hs
       · next h1 => rw [if_pos h1]; exact P (o := fun ls => am_m2 _ _ ls _ _) (fun _ h => lq_m2 h) hs
       · next h1 =>
         rw [if_neg h1]
         split at hs
         · next h2 => rw [if_pos h2]; exact P (o := fun ls => am_m2 _ _ ls _ _) (fun _ h => lq_m2 h) hs
         · next h2 => rw [if_neg h2]; exact P (o := fun ls => am_copy _ ls _ _) (fun _ h => lq_copy h) hs)
theorem am_land_lq {M : AMe} {hp : Nat} {ls ls2 : ALs} {S : Nat × ALs} (q : Lq ls ls2) (hs : am_land M hp ls = some S) : ∃ ls3, am_land M hp ls2 = some (S.1, ls3) ∧ Lq S.2 ls3 := by
  delta am_land at hs ⊢
  rw [q.1] at hs
  split at hs
  · split at hs
    · next hi => cases hs; rw [if_pos hi]; exact ⟨_, rfl, q.clr _⟩
    · cases hs
  · split at hs
    · next hi => cases hs; rw [if_pos hi]; exact ⟨_, rfl, q.clr _⟩
    · cases hs
  · cases hs
theorem am_exec_lq {cf : Nat → List Value → AHp → Option ARe} {M : AMe} {d : Nat} {scr : ASc} {res : ARe} : ∀ (f pc : Nat) (ls ls2 : ALs) (st : List Value) (h : AHp) (k n : Nat), Lq ls ls2 → am_exec cf M d scr f (pc, ls, st, h, k, n) = some res → am_exec cf M d scr f (pc, ls2, st, h, k, n) = some res
  | 0, _, _, _, _, _, _, _, _, hr => by cases hr
  | f + 1, pc, ls, ls2, st, h, k, n, q, hr => by
    obtain ⟨E, hE, ⟨hk, S, hS, h1⟩ | ⟨hk, v, hv, h1⟩ | ⟨hk, as, rest, Y, res1, ha, hp, hrv, hc, hsub⟩ | ⟨hk, h7, h5, hs, hh, h1⟩⟩ := am_exec_inv hr
    · obtain ⟨ls3, h3, q3⟩ := am_step_lq q hS
      rw [am_exec_step hE hk h3]
      exact am_exec_lq f _ _ _ _ _ _ _ q3 h1
    · rw [am_exec, hE]
      simp only [hk, hv, h1]
    · rw [am_exec, hE]
      simp only [hk, ha, hp, hrv, if_true, hc]
      obtain ⟨ro, hr1, kr, nr⟩ := res1
      rcases hsub with ⟨v, hv, h1⟩ | ⟨X, hX, hhs, h1⟩ | ⟨X, hp2, pc2, ls3, hX, hhd, hl2, h1⟩
      · dsimp only at hv h1
        subst hv
        exact am_exec_lq f _ _ _ _ _ _ _ q h1
      · dsimp only at hX h1
        subst hX
        simp only [hhs, h1]
      · dsimp only at hX h1
        subst hX
        cases hhs : M.2.2.2.2.2.1 with
        | nil => rw [hhs] at hhd; cases hhd
        | cons q2 l =>
          rw [hhs] at hhd
          obtain ⟨ls4, h4, q4⟩ := am_land_lq q hl2
          simp only [hhd, h4]
          exact am_exec_lq f _ _ _ _ _ _ _ q4 h1
    · rw [am_exec, hE]
      simp only [hk]
      rw [if_pos ⟨by omega, h5, hs, hh⟩, h1]
/-- slots forgotten -/
theorem x_fg {d : Nat} {M : AMe} {scr : ASc} {res : ARe} {pc : Nat} {ls ls2 : ALs} {st : List Value} {h : AHp} {c n : Nat} (q : Lq ls ls2) (k : Ex d M scr (pc, ls, st, h, c, n) res) : Ex d M scr (pc, ls2, st, h, c, n) res := by
  obtain ⟨f0, hf⟩ := k
  exact ⟨f0, fun f g h1 h2 => am_exec_lq _ _ _ _ _ _ _ _ q (hf f g h1 h2)⟩
