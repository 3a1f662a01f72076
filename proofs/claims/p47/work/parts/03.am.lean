/-! ===== THE ABSTRACT MACHINE: a heap is a list of cells, a reference is a place in it; ids from am_SB on are things outside the world ===== -/
abbrev ASt : Type := Nat × ALs × List Value × AHp × Nat × Nat
/-- what a call comes to: the value, or the number of the exception; the heap; new cells, their slots -/
abbrev ARe : Type := (Option Value ⊕ Nat) × AHp × Nat × Nat
def am_SB : Nat := 1000000
/-- the array types: 0 int, 1 boolean, 2 byte, 3 .. references -/
def am_el : Nat → FieldType
  | 0 => .int
  | 1 => .boolean
  | 2 => .byte
  | 3 => .object "PebbleProofs$Board"
  | 4 => .object "PebbleProofs$FailingPiles"
  | 5 => .object "java/lang/Object"
  | 6 => .array .boolean
  | _ => .array .int
/-- Integer's two tables -/
def am_d1 : Nat → Int32 := fun j => Int32.ofNat (48 + j % 10)
def am_dt : Nat → Int32 := fun j => Int32.ofNat (48 + j / 10)
/-- a text's place -/
abbrev am_isT (a : Nat) : Prop := (a - (am_SB + 10)) % 2 = 0 ∧ am_SB + 10 ≤ a ∧ a < am_SB + 64
abbrev am_isB (a : Nat) : Prop := (a - (am_SB + 10)) % 2 = 1 ∧ am_SB + 10 ≤ a ∧ a < am_SB + 64
/-- rows of bytes outside the world -/
def am_oa (a : Nat) : Option (Nat × (Nat → Int32)) :=
  if am_isB a then some ((am_tx ((a - (am_SB + 10)) / 2)).length, fun j => (am_tx ((a - (am_SB + 10)) / 2)).getD j 0)
  else if a = am_SB + 3 then some (100, am_d1) else if a = am_SB + 4 then some (100, am_dt) else none
def am_kill (ls : ALs) (i : Nat) : ALs := match i with
  | 0 => ls
  | j + 1 => match ls[j]? with
    | some (some (.long _)) => ls.set j none
    | _ => ls
def am_set1 (ls : ALs) (i : Nat) (v : Value) : ALs := (am_kill ls i).set i (some v)
def am_set2 (ls : ALs) (i : Nat) (v : Value) : ALs := ((am_kill ls i).set i (some v)).set (i + 1) none
def am_clr (ls : ALs) (i : Nat) : ALs := (am_kill ls i).set i none
def am_cmp (c : ClassFile.Cond) (x y : Int32) : Bool := match c with
  | .eq => decide (x = y)
  | .ne => decide (¬ x = y)
  | .lt => decide (x < y)
  | .ge => decide (y ≤ x)
  | .gt => decide (y < x)
  | .le => decide (x ≤ y)
/-- two ints to one -/
def am_ii (f : Int32 → Int32 → Int32) (pc : Nat) (ls : ALs) (st : List Value) (h : AHp) : Option ASt := match st with
  | .int y :: .int x :: r => some (pc + 1, ls, .int (f x y) :: r, h, 0, 0)
  | _ => none
def am_ll (f : Int64 → Int64 → Int64) (pc : Nat) (ls : ALs) (st : List Value) (h : AHp) : Option ASt := match st with
  | .long y :: .long x :: r => some (pc + 1, ls, .long (f x y) :: r, h, 0, 0)
  | _ => none
def am_li (f : Int64 → Int32 → Int64) (pc : Nat) (ls : ALs) (st : List Value) (h : AHp) : Option ASt := match st with
  | .int y :: .long x :: r => some (pc + 1, ls, .long (f x y) :: r, h, 0, 0)
  | _ => none
def am_ldi (i len pc : Nat) (ls : ALs) (st : List Value) (h : AHp) : Option ASt := match ls[i]? with
  | some (some (.int x)) => some (pc + len, ls, .int x :: st, h, 0, 0)
  | _ => none
def am_ldl (i len pc : Nat) (ls : ALs) (st : List Value) (h : AHp) : Option ASt := match ls[i]? with
  | some (some (.long x)) => some (pc + len, ls, .long x :: st, h, 0, 0)
  | _ => none
def am_lda (i len pc : Nat) (ls : ALs) (st : List Value) (h : AHp) : Option ASt := match ls[i]? with
  | some (some (.ref x)) => some (pc + len, ls, .ref x :: st, h, 0, 0)
  | some (some .null) => some (pc + len, ls, .null :: st, h, 0, 0)
  | _ => none
def am_sti (i len pc : Nat) (ls : ALs) (st : List Value) (h : AHp) : Option ASt := match st with
  | .int x :: r => if i < ls.length then some (pc + len, am_set1 ls i (.int x), r, h, 0, 0) else none
  | _ => none
def am_stl (i len pc : Nat) (ls : ALs) (st : List Value) (h : AHp) : Option ASt := match st with
  | .long x :: r => if i + 1 < ls.length then some (pc + len, am_set2 ls i (.long x), r, h, 0, 0) else none
  | _ => none
def am_sta (i len pc : Nat) (ls : ALs) (st : List Value) (h : AHp) : Option ASt := match st with
  | .ref x :: r => if i < ls.length then some (pc + len, am_set1 ls i (.ref x), r, h, 0, 0) else none
  | .null :: r => if i < ls.length then some (pc + len, am_set1 ls i .null, r, h, 0, 0) else none
  | _ => none
def am_if (b : Bool) (tgt nxt : Nat) (ls : ALs) (st : List Value) (h : AHp) : Option ASt :=
  some (if b then tgt else nxt, ls, st, h, 0, 0)
def am_ldc (len pc r1 r2 : Nat) (ls : ALs) (st : List Value) (h : AHp) : Option ASt := match r1 with
  | 0 => some (pc + len, ls, .int (Int32.ofNat r2) :: st, h, 0, 0)
  | 1 => some (pc + len, ls, .ref (am_SB + 10 + 2 * r2) :: st, h, 0, 0)
  | _ => none
def am_get (pc r1 r2 : Nat) (ls : ALs) (st : List Value) (h : AHp) : Option ASt := match st with
  | .ref a :: r => if a < am_SB then
      match h[a]? with
      | some (.inr (ci, fs)) => if ci = r1 then
          match fs[r2]? with
          | some v => some (pc + 3, ls, v :: r, h, 0, 0)
          | none => none
        else none
      | _ => none
    else if am_isT a ∧ r1 = 8 then match r2 with
      | 0 => some (pc + 3, ls, .ref (a + 1) :: r, h, 0, 0)
      | 1 => some (pc + 3, ls, .int 0 :: r, h, 0, 0)
      | _ => none
    else none
  | _ => none
def am_put (pc r1 r2 : Nat) (ls : ALs) (st : List Value) (h : AHp) : Option ASt := match st with
  | v :: .ref a :: r => if a < am_SB then
      match h[a]? with
      | some (.inr (ci, fs)) => if ci = r1 ∧ r2 < fs.length ∧ fits (am_ft ci r2) v = true ∧ narrow (am_ft ci r2) v = v ∧ ¬ v = .ref (am_SB + 1) then
          some (pc + 3, ls, r, h.set a (.inr (ci, fs.set r2 v)), 0, 0)
        else none
      | _ => none
    else none
  | _ => none
def am_static (pc r1 : Nat) (ls : ALs) (st : List Value) (h : AHp) : Option ASt := match r1 with
  | 0 => some (pc + 3, ls, .int 1 :: st, h, 0, 0)
  | 1 => some (pc + 3, ls, .ref (am_SB + 1) :: st, h, 0, 0)
  | 2 => some (pc + 3, ls, .ref (am_SB + 2) :: st, h, 0, 0)
  | 3 => some (pc + 3, ls, .ref (am_SB + 3) :: st, h, 0, 0)
  | 4 => some (pc + 3, ls, .ref (am_SB + 4) :: st, h, 0, 0)
  | _ => none
/-- the script: what lies at am_SB -/
abbrev ASc : Type := Option (Nat × (Nat → Int32))
def am_iald (scr : ASc) (pc : Nat) (ls : ALs) (st : List Value) (h : AHp) : Option ASt := match st with
  | .int i :: .ref a :: r => if a < am_SB then
      match h[a]? with
      | some (.inl (0, n, .inl f)) => if 0 ≤ i.toInt ∧ i.toInt < n then some (pc + 1, ls, .int (f i.toNatClampNeg) :: r, h, 0, 0) else none
      | _ => none
    else if a = am_SB then
      match scr with
      | some (n, f) => if 0 ≤ i.toInt ∧ i.toInt < n then some (pc + 1, ls, .int (f i.toNatClampNeg) :: r, h, 0, 0) else none
      | none => none
    else none
  | _ => none
def am_bald (pc : Nat) (ls : ALs) (st : List Value) (h : AHp) : Option ASt := match st with
  | .int i :: .ref a :: r => if a < am_SB then
      match h[a]? with
      | some (.inl (t, n, .inl f)) => if (t = 1 ∨ t = 2) ∧ 0 ≤ i.toInt ∧ i.toInt < n then some (pc + 1, ls, .int (f i.toNatClampNeg) :: r, h, 0, 0) else none
      | _ => none
    else match am_oa a with
      | some (n, f) => if 0 ≤ i.toInt ∧ i.toInt < n then some (pc + 1, ls, .int (f i.toNatClampNeg) :: r, h, 0, 0) else none
      | none => none
  | _ => none
def am_aald (pc : Nat) (ls : ALs) (st : List Value) (h : AHp) : Option ASt := match st with
  | .int i :: .ref a :: r => if a < am_SB then
      match h[a]? with
      | some (.inl (t, n, .inr (.inr (.inr (.inr f))))) => if (3 ≤ t ∧ t < 8) ∧ 0 ≤ i.toInt ∧ i.toInt < n then some (pc + 1, ls, va_rf (f i.toNatClampNeg) :: r, h, 0, 0) else none
      | _ => none
    else none
  | _ => none
def am_iast (pc : Nat) (ls : ALs) (st : List Value) (h : AHp) : Option ASt := match st with
  | .int x :: .int i :: .ref a :: r => if a < am_SB then
      match h[a]? with
      | some (.inl (0, n, .inl f)) => if 0 ≤ i.toInt ∧ i.toInt < n then some (pc + 1, ls, r, h.set a (.inl (0, n, .inl (upd f i.toNatClampNeg x))), 0, 0) else none
      | _ => none
    else none
  | _ => none
def am_bast (pc : Nat) (ls : ALs) (st : List Value) (h : AHp) : Option ASt := match st with
  | .int x :: .int i :: .ref a :: r => if a < am_SB then
      match h[a]? with
      | some (.inl (t, n, .inl f)) => if (0 ≤ i.toInt ∧ i.toInt < n) ∧ ((t = 1 ∧ (x = 0 ∨ x = 1)) ∨ (t = 2 ∧ x.toInt8.toInt32 = x)) then some (pc + 1, ls, r, h.set a (.inl (t, n, .inl (upd f i.toNatClampNeg x))), 0, 0) else none
      | _ => none
    else none
  | _ => none
/-- what may be stored in an array of references: objects of the class alone; in one of Objects anything -/
def am_mayb (t : Nat) (c : AC) : Bool := match c with
  | .inr (ci, _) => decide ((t = 3 ∧ ci = 0) ∨ (t = 4 ∧ ci = 1) ∨ t = 5)
  | .inl _ => decide (t = 5)
/-- an object into an array -/
def am_aast (pc : Nat) (ls : ALs) (st : List Value) (h : AHp) : Option ASt := match st with
  | .ref v :: .int i :: .ref a :: r => if a < am_SB ∧ v < am_SB then
      match h[a]?, h[v]? with
      | some (.inl (t, n, .inr (.inr (.inr (.inr f))))), some c => if am_mayb t c = true ∧ 0 ≤ i.toInt ∧ i.toInt < n then some (pc + 1, ls, r, h.set a (.inl (t, n, .inr (.inr (.inr (.inr (va_up f i.toNatClampNeg (some v))))))), 0, 0) else none
      | _, _ => none
    else none
  | .null :: .int i :: .ref a :: r => if a < am_SB then
      match h[a]? with
      | some (.inl (t, n, .inr (.inr (.inr (.inr f))))) => if t = 5 ∧ 0 ≤ i.toInt ∧ i.toInt < n then some (pc + 1, ls, r, h.set a (.inl (t, n, .inr (.inr (.inr (.inr (va_up f i.toNatClampNeg none)))))), 0, 0) else none
      | _ => none
    else none
  | _ => none
def am_alen (scr : ASc) (pc : Nat) (ls : ALs) (st : List Value) (h : AHp) : Option ASt := match st with
  | .ref a :: r => if a < am_SB then
      match h[a]? with
      | some (.inl (t, n, _)) => if t < 8 then some (pc + 1, ls, .int (Int32.ofNat n) :: r, h, 0, 0) else none
      | _ => none
    else if a = am_SB then
      match scr with
      | some (n, _) => some (pc + 1, ls, .int (Int32.ofNat n) :: r, h, 0, 0)
      | none => none
    else if a = am_SB + 2 then some (pc + 1, ls, .int 0 :: r, h, 0, 0)
    else match am_oa a with
      | some (n, _) => some (pc + 1, ls, .int (Int32.ofNat n) :: r, h, 0, 0)
      | none => none
  | _ => none
def am_new (pc r1 : Nat) (ls : ALs) (st : List Value) (h : AHp) : Option ASt :=
  if h.length < am_SB ∧ r1 < 12 then some (pc + 3, ls, .ref h.length :: st, h ++ [.inr (r1, am_fd r1)], 1, (am_fd r1).length) else none
def am_newa (t : ArrayType) (pc : Nat) (ls : ALs) (st : List Value) (h : AHp) : Option ASt := match st with
  | .int n :: r => if h.length < am_SB ∧ 0 ≤ n.toInt ∧ n.toInt < 1000000 then
      match t with
      | .int => some (pc + 2, ls, .ref h.length :: r, h ++ [.inl (0, n.toNatClampNeg, .inl (fun _ => 0))], 1, n.toNatClampNeg)
      | .boolean => some (pc + 2, ls, .ref h.length :: r, h ++ [.inl (1, n.toNatClampNeg, .inl (fun _ => 0))], 1, n.toNatClampNeg)
      | .byte => some (pc + 2, ls, .ref h.length :: r, h ++ [.inl (2, n.toNatClampNeg, .inl (fun _ => 0))], 1, n.toNatClampNeg)
      | _ => none
    else none
  | _ => none
def am_newq (pc r1 : Nat) (ls : ALs) (st : List Value) (h : AHp) : Option ASt := match st with
  | .int n :: r => if h.length < am_SB ∧ 0 ≤ n.toInt ∧ n.toInt < 1000000 ∧ (r1 = 3 ∨ r1 = 4 ∨ r1 = 5) then
      some (pc + 3, ls, .ref h.length :: r, h ++ [.inl (r1, n.toNatClampNeg, .inr (.inr (.inr (.inr (fun _ => none)))))], 1, n.toNatClampNeg)
    else none
  | _ => none
/-- rows of rows: r1 the outer row's type; the rows are new, of zeros -/
def am_rows (t k : Nat) : Nat → List AC := fun n => List.replicate n (.inl (t, k, .inl (fun _ => 0)))
def am_newm (pc r1 : Nat) (ls : ALs) (st : List Value) (h : AHp) : Option ASt := match st with
  | .int k :: .int n :: r => if h.length + 1 + n.toNatClampNeg ≤ am_SB ∧ (0 ≤ n.toInt ∧ n.toInt < 1000) ∧ (0 ≤ k.toInt ∧ k.toInt < 1000) ∧ (r1 = 6 ∨ r1 = 7) then
      some (pc + 4, ls, .ref h.length :: r, h ++ (.inl (r1, n.toNatClampNeg, .inr (.inr (.inr (.inr (fun j => if j < n.toNatClampNeg then some (h.length + 1 + j) else none))))) :: am_rows (7 - r1) k.toNatClampNeg n.toNatClampNeg), 1 + n.toNatClampNeg, n.toNatClampNeg + n.toNatClampNeg * k.toNatClampNeg)
    else none
  | _ => none
/-- an array's copy: of ints, of bytes -/
def am_clone (t pc : Nat) (ls : ALs) (st : List Value) (h : AHp) : Option ASt := match st with
  | .ref a :: r => if a < am_SB ∧ h.length < am_SB ∧ (r.map Value.category).sum ≤ 8 then
      match h[a]? with
      | some (.inl (u, n, .inl f)) => if u = t ∧ (t = 0 ∨ (t = 2 ∧ ∀ j, j < n → (f j).toInt8.toInt32 = f j)) then some (pc + 3, ls, .ref h.length :: r, h ++ [.inl (u, n, .inl f)], 1, n) else none
      | _ => none
    else none
  | _ => none
/-- an object or array is what it is said to be -/
def am_cast (pc r1 : Nat) (ls : ALs) (st : List Value) (h : AHp) : Option ASt := match st with
  | .ref a :: r => if a < am_SB then
      match h[a]? with
      | some (.inr (ci, _)) => if ci = r1 ∧ ci = 7 then some (pc + 3, ls, .ref a :: r, h, 0, 0) else none
      | some (.inl (t, _, _)) => if r1 = 100 + t ∧ (t = 0 ∨ t = 2) then some (pc + 3, ls, .ref a :: r, h, 0, 0) else none
      | _ => none
    else none
  | _ => none
/-- one and the same -/
def am_acq (pc tgt : Nat) (ls : ALs) (st : List Value) (h : AHp) : Option ASt := match st with
  | .ref a :: .ref b :: r => if a = b ∧ ¬ a = am_SB + 1 then some (tgt, ls, r, h, 0, 0) else none
  | _ => none
def am_dup1 (pc : Nat) (ls : ALs) (st : List Value) (h : AHp) : Option ASt := match st with
  | v :: w :: r => if v.category = 1 ∧ w.category = 1 then some (pc + 1, ls, v :: w :: v :: r, h, 0, 0) else none
  | _ => none
/-- System.arraycopy: of ints, truth values, bytes (one array to another; bytes from outside too), of Objects (in one array) -/
def am_copy (pc : Nat) (ls : ALs) (st : List Value) (h : AHp) : Option ASt := match st with
  | .int n :: .int dp :: .ref a :: .int sp :: .ref b :: r => if a < am_SB ∧ (r.map Value.category).sum ≤ 8 then
      if b < am_SB then
        match h[b]?, h[a]? with
        | some (.inl (t, n0, .inl f)), some (.inl (u, n1, .inl g)) => if (t = u ∧ (t = 0 ∨ ((t = 1 ∨ t = 2) ∧ ∀ j, j < n0 → fits (am_el t) (.int (f j)) = true))) ∧ 0 ≤ sp.toInt ∧ 0 ≤ dp.toInt ∧ 0 ≤ n.toInt ∧ sp.toNatClampNeg + n.toNatClampNeg ≤ n0 ∧ dp.toNatClampNeg + n.toNatClampNeg ≤ n1 then
            some (pc + 3, ls, r, h.set a (.inl (u, n1, .inl (va_cpy f g sp.toNatClampNeg dp.toNatClampNeg n.toNatClampNeg))), 0, 0) else none
        | some (.inl (t, n0, .inr (.inr (.inr (.inr f))))), some (.inl (u, n1, .inr (.inr (.inr (.inr g))))) => if (t = 5 ∧ u = 5) ∧ 0 ≤ sp.toInt ∧ 0 ≤ dp.toInt ∧ 0 ≤ n.toInt ∧ sp.toNatClampNeg + n.toNatClampNeg ≤ n0 ∧ dp.toNatClampNeg + n.toNatClampNeg ≤ n1 then
            some (pc + 3, ls, r, h.set a (.inl (u, n1, .inr (.inr (.inr (.inr (va_cpy f g sp.toNatClampNeg dp.toNatClampNeg n.toNatClampNeg)))))), 0, 0) else none
        | _, _ => none
      else match am_oa b, h[a]? with
        | some (n0, f), some (.inl (u, n1, .inl g)) => if u = 2 ∧ 0 ≤ sp.toInt ∧ 0 ≤ dp.toInt ∧ 0 ≤ n.toInt ∧ sp.toNatClampNeg + n.toNatClampNeg ≤ n0 ∧ dp.toNatClampNeg + n.toNatClampNeg ≤ n1 then
            some (pc + 3, ls, r, h.set a (.inl (u, n1, .inl (va_cpy f g sp.toNatClampNeg dp.toNatClampNeg n.toNatClampNeg))), 0, 0) else none
        | _, _ => none
    else none
  | _ => none
def am_tsw (pc : Nat) (dflt lo hi : Int) (offs : Array Int) (ls : ALs) (st : List Value) (h : AHp) : Option ASt := match st with
  | .int x :: r => if x.toInt < lo ∨ hi < x.toInt then (if 0 ≤ (pc : Int) + dflt then some (((pc : Int) + dflt).toNat, ls, r, h, 0, 0) else none)
      else match offs[(x.toInt - lo).toNat]? with
        | some off => if 0 ≤ (pc : Int) + off then some (((pc : Int) + off).toNat, ls, r, h, 0, 0) else none
        | none => none
  | _ => none
def am_dup (pc : Nat) (ls : ALs) (st : List Value) (h : AHp) : Option ASt := match st with
  | v :: r => if v.category = 1 then some (pc + 1, ls, v :: v :: r, h, 0, 0) else none
  | _ => none
def am_dup2 (pc : Nat) (ls : ALs) (st : List Value) (h : AHp) : Option ASt := match st with
  | v :: w :: r => if v.category = 1 ∧ w.category = 1 then some (pc + 1, ls, v :: w :: v :: w :: r, h, 0, 0) else none
  | _ => none
def am_pop (pc : Nat) (ls : ALs) (st : List Value) (h : AHp) : Option ASt := match st with
  | v :: r => if v.category = 1 then some (pc + 1, ls, r, h, 0, 0) else none
  | _ => none
def am_z (c : ClassFile.Cond) (pc tgt : Nat) (ls : ALs) (st : List Value) (h : AHp) : Option ASt := match st with
  | .int x :: r => am_if (am_cmp c x 0) tgt (pc + 3) ls r h
  | _ => none
def am_c2 (c : ClassFile.Cond) (pc tgt : Nat) (ls : ALs) (st : List Value) (h : AHp) : Option ASt := match st with
  | .int y :: .int x :: r => am_if (am_cmp c x y) tgt (pc + 3) ls r h
  | _ => none
/-- null or not: tn where it goes with null, tr with a cell (outside too) -/
def am_nul (tn tr : Nat) (ls : ALs) (st : List Value) (h : AHp) : Option ASt := match st with
  | .null :: r => some (tn, ls, r, h, 0, 0)
  | .ref a :: r => if ¬ a = am_SB + 1 then some (tr, ls, r, h, 0, 0) else none
  | _ => none
def am_i1 (f : Int32 → Value) (pc : Nat) (ls : ALs) (st : List Value) (h : AHp) : Option ASt := match st with
  | .int x :: r => some (pc + 1, ls, f x :: r, h, 0, 0)
  | _ => none
def am_l2i (pc : Nat) (ls : ALs) (st : List Value) (h : AHp) : Option ASt := match st with
  | .long x :: r => some (pc + 1, ls, .int x.toInt32 :: r, h, 0, 0)
  | _ => none
def am_lcmp (pc : Nat) (ls : ALs) (st : List Value) (h : AHp) : Option ASt := match st with
  | .long y :: .long x :: r => some (pc + 1, ls, .int (lg_cmp x y) :: r, h, 0, 0)
  | _ => none
def am_dv (f : Int32 → Int32 → Int32) (pc : Nat) (ls : ALs) (st : List Value) (h : AHp) : Option ASt := match st with
  | .int y :: .int x :: r => if y = 0 then none else some (pc + 1, ls, .int (f x y) :: r, h, 0, 0)
  | _ => none
def am_inc (i : Nat) (n : Int) (pc : Nat) (ls : ALs) (st : List Value) (h : AHp) : Option ASt := match ls[i]? with
  | some (some (.int x)) => some (pc + 3, am_set1 ls i (.int (x + Int32.ofInt n)), st, h, 0, 0)
  | _ => none
/-- Math.max, Math.min -/
def am_m2 (f : Int32 → Int32 → Int32) (pc : Nat) (ls : ALs) (st : List Value) (h : AHp) : Option ASt := match st with
  | .int y :: .int x :: r => if (r.map Value.category).sum ≤ 8 then some (pc + 3, ls, .int (f x y) :: r, h, 0, 0) else none
  | _ => none
/-- Object's constructor -/
def am_obj (pc : Nat) (ls : ALs) (st : List Value) (h : AHp) : Option ASt := match st with
  | .ref a :: r => if a < am_SB ∧ (r.map Value.category).sum ≤ 8 then some (pc + 3, ls, r, h, 0, 0) else none
  | _ => none
/-- one instruction that stays in its frame -/
def am_step (scr : ASc) (E : AEn) (ls : ALs) (st : List Value) (h : AHp) : Option ASt := match E with
  | (pc, i, r1, r2) => match i with
    | .iconst v => some (pc + 1, ls, .int (Int32.ofInt v) :: st, h, 0, 0)
    | .bipush v => some (pc + 2, ls, .int (Int8.ofInt v).toInt32 :: st, h, 0, 0)
    | .sipush v => some (pc + 3, ls, .int (Int16.ofInt v).toInt32 :: st, h, 0, 0)
    | .lconst l => some (pc + 1, ls, .long (Int64.ofNat (l : Nat)) :: st, h, 0, 0)
    | .ldc _ => am_ldc 2 pc r1 r2 ls st h
    | .ldc_w _ => am_ldc 3 pc r1 r2 ls st h
    | .ldc2_w _ => some (pc + 3, ls, .long (Int64.ofNat r1) :: st, h, 0, 0)
    | .iload n => am_ldi n 2 pc ls st h
    | .iload_n n => am_ldi n 1 pc ls st h
    | .lload n => am_ldl n 2 pc ls st h
    | .lload_n n => am_ldl n 1 pc ls st h
    | .aload n => am_lda n 2 pc ls st h
    | .aload_n n => am_lda n 1 pc ls st h
    | .istore n => am_sti n 2 pc ls st h
    | .istore_n n => am_sti n 1 pc ls st h
    | .lstore n => am_stl n 2 pc ls st h
    | .lstore_n n => am_stl n 1 pc ls st h
    | .astore n => am_sta n 2 pc ls st h
    | .astore_n n => am_sta n 1 pc ls st h
    | .iinc j n => am_inc j n pc ls st h
    | .iadd => am_ii (fun x y => x + y) pc ls st h
    | .isub => am_ii (fun x y => x - y) pc ls st h
    | .imul => am_ii (fun x y => x * y) pc ls st h
    | .iand => am_ii (fun x y => x &&& y) pc ls st h
    | .ior => am_ii (fun x y => x ||| y) pc ls st h
    | .ixor => am_ii (fun x y => x ^^^ y) pc ls st h
    | .ishl => am_ii (fun x y => x <<< (y &&& 31)) pc ls st h
    | .ishr => am_ii (fun x y => x >>> (y &&& 31)) pc ls st h
    | .iushr => am_ii (fun x y => (x.toUInt32 >>> (y.toUInt32 &&& Int32.toUInt32 31)).toInt32) pc ls st h
    | .idiv => am_dv (fun x y => x / y) pc ls st h
    | .irem => am_dv (fun x y => x - x / y * y) pc ls st h
    | .ladd => am_ll (fun x y => x + y) pc ls st h
    | .lsub => am_ll (fun x y => x - y) pc ls st h
    | .land => am_ll (fun x y => x &&& y) pc ls st h
    | .lor => am_ll (fun x y => x ||| y) pc ls st h
    | .lxor => am_ll (fun x y => x ^^^ y) pc ls st h
    | .lshl => am_li (fun x y => x <<< (y.toInt64 &&& 63)) pc ls st h
    | .lshr => am_li (fun x y => x >>> (y.toInt64 &&& 63)) pc ls st h
    | .lushr => am_li (fun x y => (x.toUInt64 >>> (y.toInt64.toUInt64 &&& Int64.toUInt64 63)).toInt64) pc ls st h
    | .i2l => am_i1 (fun x => .long x.toInt64) pc ls st h
    | .i2c => am_i1 (fun x => .int (x.toUInt32 % 65536).toInt32) pc ls st h
    | .i2b => am_i1 (fun x => .int x.toInt8.toInt32) pc ls st h
    | .ineg => am_i1 (fun x => .int (-x)) pc ls st h
    | .aconst_null => some (pc + 1, ls, .null :: st, h, 0, 0)
    | .dup_x1 => am_dup1 pc ls st h
    | .if_acmp c _ => match c with
      | .eq => am_acq pc r1 ls st h
      | _ => none
    | .checkcast _ => am_cast pc r1 ls st h
    | .multianewarray _ _ => am_newm pc r1 ls st h
    | .invokevirtual _ => if r1 = 904 then am_clone 0 pc ls st h else am_clone 2 pc ls st h
    | .l2i => am_l2i pc ls st h
    | .lcmp => am_lcmp pc ls st h
    | .dup => am_dup pc ls st h
    | .dup2 => am_dup2 pc ls st h
    | .pop => am_pop pc ls st h
    | .goto _ => some (r1, ls, st, h, 0, 0)
    | .ifCond c _ => am_z c pc r1 ls st h
    | .if_icmp c _ => am_c2 c pc r1 ls st h
    | .ifnull _ => am_nul r1 (pc + 3) ls st h
    | .ifnonnull _ => am_nul (pc + 3) r1 ls st h
    | .tableswitch dflt lo hi offs => am_tsw pc dflt lo hi offs ls st h
    | .getfield _ => am_get pc r1 r2 ls st h
    | .putfield _ => am_put pc r1 r2 ls st h
    | .getstatic _ => am_static pc r1 ls st h
    | .iaload => am_iald scr pc ls st h
    | .baload => am_bald pc ls st h
    | .aaload => am_aald pc ls st h
    | .iastore => am_iast pc ls st h
    | .bastore => am_bast pc ls st h
    | .aastore => am_aast pc ls st h
    | .arraylength => am_alen scr pc ls st h
    | .new _ => am_new pc r1 ls st h
    | .newarray t => am_newa t pc ls st h
    | .anewarray _ => am_newq pc r1 ls st h
    | .invokestatic _ => if r1 = 902 then am_m2 (fun x y => if x < y then y else x) pc ls st h else if r1 = 903 then am_m2 (fun x y => if y < x then y else x) pc ls st h else am_copy pc ls st h
    | .invokespecial _ => am_obj pc ls st h
    | _ => none
/-- how long a call is -/
def am_nx : Instr → Nat
  | .invokeinterface _ _ => 5
  | _ => 3
/-- 0 stays in its frame, 1 returns, 2 calls, 3 makes an exception and throws it -/
def am_kind (i : Instr) (r1 : Nat) : Nat := match i with
  | .ireturn | .lreturn | .areturn | .return_ => 1
  | .invokestatic _ => if r1 = 900 ∨ r1 = 902 ∨ r1 = 903 then 0 else 2
  | .invokespecial _ => if r1 = 901 then 0 else 2
  | .invokevirtual _ => if r1 = 904 ∨ r1 = 905 then 0 else 2
  | .invokeinterface _ _ => 2
  | .new _ => if r1 = 1000 then 3 else 0
  | _ => 0
def am_ret (rt : Option FieldType) (i : Instr) (st : List Value) : Option (Option Value) := match i, st, rt with
  | .ireturn, [.int v], some ty => if narrow ty (.int v) = .int v then some (some (.int v)) else none
  | .lreturn, [.long v], some .long => some (some (.long v))
  | .areturn, [.ref a], some (.object _) => if a < am_SB then some (some (.ref a)) else none
  | .areturn, [.ref a], some (.array _) => if a < am_SB then some (some (.ref a)) else none
  | .areturn, [.null], some (.object _) => some (some .null)
  | .return_, [], none => some none
  | _, _, _ => none
/-- the classes of exceptions, by number -/
def am_exn : Nat → String
  | 0 => "java/lang/IllegalStateException"
  | 1 => "java/lang/IllegalArgumentException"
  | _ => "java/lang/IndexOutOfBoundsException"
def am_find : List AEn → Nat → Option AEn
  | [], _ => none
  | e :: l, pc => if e.1 = pc then some e else am_find l pc
/-- the first handler that covers a place and is of the class (none: no handler) -/
def am_hand : List (Nat × Nat × Nat × Nat × Nat) → Nat → Nat → Option Nat
  | [], _, _ => none
  | (a, b, hp, _, j) :: l, pc, X => if a ≤ pc ∧ pc < b ∧ j = X then some hp else am_hand l pc X
/-- the arguments of a call (n of them with the object), and what is left below -/
def am_args (n : Nat) (st : List Value) : Option (List Value × List Value) :=
  if n ≤ st.length ∧ ((st.drop n).map Value.category).sum ≤ 8 then some ((st.take n).reverse, st.drop n) else none
/-- the object of a call is of the class (a StringBuilder for its parent class too); a text of String; methods from 400 on are called for the parent class -/
def am_recv (i : Instr) (r1 : Nat) (C : String) (as : List Value) (h : AHp) : Bool := match i with
  | .invokestatic _ => true
  | .invokespecial _ => match as with
    | .ref a :: _ => if 400 ≤ r1 then decide (a < am_SB) && (match h[a]? with
        | some (.inr (ci, _)) => decide (ci = 9)
        | _ => false) else decide (a < am_SB)
    | _ => false
  | .invokevirtual _ => match as with
    | .ref a :: _ => if a < am_SB then
        match h[a]? with
        | some (.inr (ci, _)) => decide (am_cn ci = C ∨ (ci = 9 ∧ C = "java/lang/AbstractStringBuilder"))
        | _ => false
      else decide (am_isT a ∧ C = "java/lang/String")
    | _ => false
  | .invokeinterface _ _ => match as with
    | .ref a :: _ => decide (a < am_SB) && (match h[a]? with
        | some (.inr (ci, _)) => decide (am_cn ci = C)
        | _ => false)
    | _ => false
  | _ => false
/-- behind a handler's first instruction, which keeps the exception in a local -/
def am_land (M : AMe) (hp : Nat) (ls : ALs) : Option (Nat × ALs) := match am_find M.2.2.2.2.2.2 hp with
  | some (_, .astore_n i, _, _) => if i < ls.length then some (hp + 1, am_clr ls i) else none
  | some (_, .astore i, _, _) => if i < ls.length then some (hp + 2, am_clr ls i) else none
  | _ => none
def am_exec (cf : Nat → List Value → AHp → Option ARe) (M : AMe) (d : Nat) (scr : ASc) : Nat → ASt → Option ARe
  | 0, _ => none
  | f + 1, (pc, ls, st, h, k, n) => match am_find M.2.2.2.2.2.2 pc with
    | none => none
    | some E => match am_kind E.2.1 E.2.2.1 with
      | 0 => match am_step scr E ls st h with
        | none => none
        | some (pc', ls', st', h', dk, dn) => am_exec cf M d scr f (pc', ls', st', h', k + dk, n + dn)
      | 1 => match am_ret M.2.2.2.2.1 E.2.1 st with
        | none => none
        | some v => some (.inl v, h, k, n)
      | 2 => match am_args E.2.2.2 st, am_prog E.2.2.1 with
        | some (as, rest), some Y => if am_recv E.2.1 E.2.2.1 Y.1.cls as h = true then
            match cf E.2.2.1 as h with
            | none => none
            | some (.inl v, h', dk, dn) => am_exec cf M d scr f (pc + am_nx E.2.1, ls, v.toList ++ rest, h', k + dk, n + dn)
            | some (.inr X, h', dk, dn) => match M.2.2.2.2.2.1 with
              | [] => some (.inr X, h', k + dk, n + dn)
              | q :: l => match am_hand (q :: l) pc X with
                | none => none
                | some hp => match am_land M hp ls with
                  | none => none
                  | some (pc', ls') => am_exec cf M d scr f (pc', ls', [], h', k + dk, n + dn)
          else none
        | _, _ => none
      | _ => if 7 ≤ d ∧ E.2.2.2 < 3 ∧ (st.map Value.category).sum ≤ 8 ∧ M.2.2.2.2.2.1 = [] then some (.inr E.2.2.2, h, k + 1, n + 6) else none
def am_slots (vs : List Value) : ALs := vs.flatMap fun v => if v.category = 2 then [some v, none] else [some v]
def am_entry (nL : Nat) (vs : List Value) : ALs := am_slots vs ++ List.replicate (nL - (am_slots vs).length) none
def am_call (scr : ASc) : Nat → Nat → Nat → List Value → AHp → Option ARe
  | 0, _, _, _, _ => none
  | 1, _, _, _, _ => none
  | d + 2, f, mi, as, h => match am_prog mi with
    | none => none
    | some M => if (am_slots as).length ≤ M.2.2.1 then am_exec (am_call scr (d + 1) f) M (d + 1) scr f (0, am_entry M.2.2.1 as, [], h, 0, 0) else none
