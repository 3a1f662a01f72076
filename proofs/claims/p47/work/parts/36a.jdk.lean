/-! ===== STAGE A: jdk (by wip/p47/genl.py) ===== -/
def J_257_0_j14 (B : Wd) (t0 : Int32) : Option (Int32) :=
  (if narrow .byte (.int t0) = .int t0 then some () else none).bind fun _ =>
  some t0
theorem j_257_0_j14 {d : Nat} (hd : 1 ≤ d) {scr : ASc} {res : ARe} {B : Wd} {t0 : Int32} {o : Int32} (hr : J_257_0_j14 B t0 = some o) (kr : res = (.inl (some (.int o)), mk B, Wd.kc B, Wd.kn B)) : Ex d am_M257 scr (14, [none], [.int t0], (mk B), B.kc, B.kn) res := by
  delta J_257_0_j14 at hr
  obtain ⟨uh3, h3, hr⟩ := bd_some hr
  obtain ⟨h2, -⟩ := itn_some h3
  cases hr
  rw [kr]
  exact x_ret rfl rfl (if_pos h2)
/-- java/lang/String.coder()B -/
def F_257 (B : Wd) (x0 : Nat) : Option (Int32) :=
  if 1 = 0 then
    J_257_0_j14 B 1
  else
    (B.gI x0 8 1).bind fun v4 =>
    J_257_0_j14 B v4
theorem f_257 {d : Nat} (hd : 1 ≤ d) {scr : ASc} {res : ARe} {B : Wd} {x0 : Nat} {o : Int32} (hr : F_257 B x0 = some o) (kr : res = (.inl (some (.int o)), mk B, Wd.kc B, Wd.kn B)) : Ex d am_M257 scr (0, [some (.ref x0)], [], (mk B), B.kc, B.kn) res := by
  delta F_257 at hr
  refine x_b 1 (S2 := (3, [some (.ref x0)], [.int 1], (mk B), B.kc, B.kn)) rfl ?_
  rcases ite_some hr with ⟨h1, hr⟩ | ⟨h1, hr⟩
  · refine x_zt rfl rfl (decide_eq_true h1) ?_
    refine x_b 1 (S2 := (14, [some (.ref x0)], [.int 1], (mk B), B.kc, B.kn)) rfl ?_
    refine x_fg (Lq.n Lq.nil) ?_
    exact j_257_0_j14 hd hr kr
  · refine x_zf rfl rfl (decide_eq_false h1) ?_
    refine x_b 1 (S2 := (7, [some (.ref x0)], [.ref x0], (mk B), B.kc, B.kn)) rfl ?_
    obtain ⟨v4, h5, hr⟩ := bd_some hr
    refine x_gI rfl rfl h5 ?_
    refine x_b 1 (S2 := (14, [some (.ref x0)], [.int v4], (mk B), B.kc, B.kn)) rfl ?_
    refine x_fg (Lq.n Lq.nil) ?_
    exact j_257_0_j14 hd hr kr
theorem m_257 {scr : ASc} {B : Wd} {x0 : Nat} {o : Int32} (hr : F_257 B x0 = some o) : RnW scr 2 257 [.ref x0] B (.inl (some (.int o))) B :=
  x_methW (M := am_M257) rfl (show 1 ≤ 1 by decide) (f_257 (Nat.le_refl _) hr rfl)
/-- java/lang/String.length()I -/
def F_255 (B : Wd) (x0 : Nat) : Option (Int32) :=
  (B.gR x0 8 0).bind fun v1 =>
  (B.ln v1).bind fun v3 =>
  (B.rs x0).bind fun _ =>
  (F_257 B x0).bind fun v7 =>
  some (v3 >>> (v7 &&& 31))
theorem f_255 {d : Nat} (hd : 2 ≤ d) {scr : ASc} {res : ARe} {B : Wd} {x0 : Nat} {o : Int32} (hr : F_255 B x0 = some o) (kr : res = (.inl (some (.int o)), mk B, Wd.kc B, Wd.kn B)) : Ex d am_M255 scr (0, [some (.ref x0)], [], (mk B), B.kc, B.kn) res := by
  delta F_255 at hr
  refine x_b 1 (S2 := (1, [some (.ref x0)], [.ref x0], (mk B), B.kc, B.kn)) rfl ?_
  obtain ⟨v1, h2, hr⟩ := bd_some hr
  refine x_gR rfl rfl h2 ?_
  obtain ⟨v3, h4, hr⟩ := bd_some hr
  refine x_ln rfl rfl h4 ?_
  refine x_b 1 (S2 := (6, [some (.ref x0)], [.ref x0, .int v3], (mk B), B.kc, B.kn)) rfl ?_
  obtain ⟨uh5, h5, hr⟩ := bd_some hr
  obtain ⟨v7, h6, hr⟩ := bd_some hr
  refine x_cW (m_257 h6) rfl rfl rfl rfl (am_recv_x h5) (by omega) ?_
  refine x_b 1 (S2 := (10, [some (.ref x0)], [.int (v3 >>> (v7 &&& 31))], (mk B), B.kc, B.kn)) rfl ?_
  cases hr
  rw [kr]
  exact x_ret rfl rfl am_ret_i
theorem m_255 {scr : ASc} {B : Wd} {x0 : Nat} {o : Int32} (hr : F_255 B x0 = some o) : RnW scr 3 255 [.ref x0] B (.inl (some (.int o))) B :=
  x_methW (M := am_M255) rfl (show 1 ≤ 1 by decide) (f_255 (Nat.le_refl _) hr rfl)
def J_258_0_j18 (B : Wd) (t0 : Int32) : Option (Int32) :=
  (if t0 = 0 ∨ t0 = 1 then some () else none).bind fun _ =>
  some t0
theorem j_258_0_j18 {d : Nat} (hd : 1 ≤ d) {scr : ASc} {res : ARe} {B : Wd} {t0 : Int32} {o : Int32} (hr : J_258_0_j18 B t0 = some o) (kr : res = (.inl (some (.int o)), mk B, Wd.kc B, Wd.kn B)) : Ex d am_M258 scr (18, [none], [.int t0], (mk B), B.kc, B.kn) res := by
  delta J_258_0_j18 at hr
  obtain ⟨uh3, h3, hr⟩ := bd_some hr
  obtain ⟨h2, -⟩ := itn_some h3
  cases hr
  rw [kr]
  exact x_ret rfl rfl (am_ret_z h2)
def J_258_0_j17 (B : Wd) : Option (Int32) :=
  J_258_0_j18 B 0
theorem j_258_0_j17 {d : Nat} (hd : 1 ≤ d) {scr : ASc} {res : ARe} {B : Wd} {o : Int32} (hr : J_258_0_j17 B = some o) (kr : res = (.inl (some (.int o)), mk B, Wd.kc B, Wd.kn B)) : Ex d am_M258 scr (17, [none], [], (mk B), B.kc, B.kn) res := by
  delta J_258_0_j17 at hr
  refine x_b 1 (S2 := (18, [none], [.int 0], (mk B), B.kc, B.kn)) rfl ?_
  refine x_fg (Lq.s Lq.nil) ?_
  exact j_258_0_j18 hd hr kr
/-- java/lang/String.isLatin1()Z -/
def F_258 (B : Wd) (x0 : Nat) : Option (Int32) :=
  if 1 = 0 then
    J_258_0_j17 B
  else
    (B.gI x0 8 1).bind fun v4 =>
    if ¬ v4 = 0 then
      J_258_0_j17 B
    else
      J_258_0_j18 B 1
theorem f_258 {d : Nat} (hd : 1 ≤ d) {scr : ASc} {res : ARe} {B : Wd} {x0 : Nat} {o : Int32} (hr : F_258 B x0 = some o) (kr : res = (.inl (some (.int o)), mk B, Wd.kc B, Wd.kn B)) : Ex d am_M258 scr (0, [some (.ref x0)], [], (mk B), B.kc, B.kn) res := by
  delta F_258 at hr
  refine x_b 1 (S2 := (3, [some (.ref x0)], [.int 1], (mk B), B.kc, B.kn)) rfl ?_
  rcases ite_some hr with ⟨h1, hr⟩ | ⟨h1, hr⟩
  · refine x_zt rfl rfl (decide_eq_true h1) ?_
    refine x_fg (Lq.n Lq.nil) ?_
    exact j_258_0_j17 hd hr kr
  · refine x_zf rfl rfl (decide_eq_false h1) ?_
    refine x_b 1 (S2 := (7, [some (.ref x0)], [.ref x0], (mk B), B.kc, B.kn)) rfl ?_
    obtain ⟨v4, h5, hr⟩ := bd_some hr
    refine x_gI rfl rfl h5 ?_
    rcases ite_some hr with ⟨h6, hr⟩ | ⟨h6, hr⟩
    · refine x_zt rfl rfl (decide_eq_true h6) ?_
      refine x_fg (Lq.n Lq.nil) ?_
      exact j_258_0_j17 hd hr kr
    · refine x_zf rfl rfl (decide_eq_false h6) ?_
      refine x_b 2 (S2 := (18, [some (.ref x0)], [.int 1], (mk B), B.kc, B.kn)) rfl ?_
      refine x_fg (Lq.n Lq.nil) ?_
      exact j_258_0_j18 hd hr kr
theorem m_258 {scr : ASc} {B : Wd} {x0 : Nat} {o : Int32} (hr : F_258 B x0 = some o) : RnW scr 2 258 [.ref x0] B (.inl (some (.int o))) B :=
  x_methW (M := am_M258) rfl (show 1 ≤ 1 by decide) (f_258 (Nat.le_refl _) hr rfl)
def J_262_0_j9 (B : Wd) (x0 : Int32) (x1 : Int32) (x2 : Option Nat) : Option (Int32) :=
  oq x2 (
    none) fun a3 =>
  none
theorem j_262_0_j9 {d : Nat} (hd : 1 ≤ d) {scr : ASc} {res : ARe} {B : Wd} {x0 : Int32} {x1 : Int32} {x2 : Option Nat} {o : Int32} (hr : J_262_0_j9 B x0 x1 x2 = some o) (kr : res = (.inl (some (.int o)), mk B, Wd.kc B, Wd.kn B)) : Ex d am_M262 scr (9, [some (.int x0), some (.int x1), some (va_rf x2)], [], (mk B), B.kc, B.kn) res := by
  delta J_262_0_j9 at hr
  rcases oq_some hr with ⟨h2, hr⟩ | ⟨a3, h2, hr⟩
  · subst h2
    refine x_b 3 (S2 := (12, [some (.int x0), some (.int x1), some (.null)], [.int x1, .int x0, .null], (mk B), B.kc, B.kn)) rfl ?_
    cases hr
  · subst h2
    refine x_b 3 (S2 := (12, [some (.int x0), some (.int x1), some (.ref a3)], [.int x1, .int x0, .ref a3], (mk B), B.kc, B.kn)) rfl ?_
    cases hr
/-- jdk/internal/util/Preconditions.checkIndex(IILjava/util/function/BiFunction;)I -/
def F_262 (B : Wd) (x0 : Int32) (x1 : Int32) (x2 : Option Nat) : Option (Int32) :=
  if x0 < 0 then
    J_262_0_j9 B x0 x1 x2
  else
    if x0 < x1 then
      some x0
    else
      J_262_0_j9 B x0 x1 x2
theorem f_262 {d : Nat} (hd : 1 ≤ d) {scr : ASc} {res : ARe} {B : Wd} {x0 : Int32} {x1 : Int32} {x2 : Option Nat} {o : Int32} (hr : F_262 B x0 x1 x2 = some o) (kr : res = (.inl (some (.int o)), mk B, Wd.kc B, Wd.kn B)) : Ex d am_M262 scr (0, [some (.int x0), some (.int x1), some (va_rf x2)], [], (mk B), B.kc, B.kn) res := by
  delta F_262 at hr
  refine x_b 1 (S2 := (1, [some (.int x0), some (.int x1), some (va_rf x2)], [.int x0], (mk B), B.kc, B.kn)) rfl ?_
  rcases ite_some hr with ⟨h1, hr⟩ | ⟨h1, hr⟩
  · refine x_zt rfl rfl (decide_eq_true h1) ?_
    refine x_fg (Lq.s (Lq.s (Lq.s Lq.nil))) ?_
    exact j_262_0_j9 hd hr kr
  · refine x_zf rfl rfl (decide_eq_false h1) ?_
    refine x_b 2 (S2 := (6, [some (.int x0), some (.int x1), some (va_rf x2)], [.int x1, .int x0], (mk B), B.kc, B.kn)) rfl ?_
    rcases ite_some hr with ⟨h4, hr⟩ | ⟨h4, hr⟩
    · refine x_ct rfl rfl (decide_eq_true h4) ?_
      refine x_b 1 (S2 := (17, [some (.int x0), some (.int x1), some (va_rf x2)], [.int x0], (mk B), B.kc, B.kn)) rfl ?_
      cases hr
      rw [kr]
      exact x_ret rfl rfl am_ret_i
    · refine x_cf rfl rfl (decide_eq_false h4) ?_
      refine x_fg (Lq.s (Lq.s (Lq.s Lq.nil))) ?_
      exact j_262_0_j9 hd hr kr
theorem m_262 {scr : ASc} {B : Wd} {x0 : Int32} {x1 : Int32} {x2 : Option Nat} {o : Int32} (hr : F_262 B x0 x1 x2 = some o) : RnW scr 2 262 [.int x0, .int x1, va_rf x2] B (.inl (some (.int o))) B := by
  cases x2 <;> exact x_methW (M := am_M262) rfl (show 3 ≤ 3 by decide) (f_262 (Nat.le_refl _) hr rfl)
/-- java/lang/String.checkIndex(II)V -/
def F_259 (B : Wd) (x0 : Int32) (x1 : Int32) : Option (Unit) :=
  (F_262 B x0 x1 (some (am_SB + 1))).bind fun v2 =>
  some ()
theorem f_259 {d : Nat} (hd : 2 ≤ d) {scr : ASc} {res : ARe} {B : Wd} {x0 : Int32} {x1 : Int32} {o : Unit} (hr : F_259 B x0 x1 = some o) (kr : res = (.inl none, mk B, Wd.kc B, Wd.kn B)) : Ex d am_M259 scr (0, [some (.int x0), some (.int x1)], [], (mk B), B.kc, B.kn) res := by
  delta F_259 at hr
  refine x_b 3 (S2 := (5, [some (.int x0), some (.int x1)], [.ref (am_SB + 1), .int x1, .int x0], (mk B), B.kc, B.kn)) rfl ?_
  obtain ⟨v2, h1, hr⟩ := bd_some hr
  refine x_cW (m_262 h1) rfl rfl rfl rfl rfl (by omega) ?_
  refine x_b 1 (S2 := (9, [some (.int x0), some (.int x1)], [], (mk B), B.kc, B.kn)) rfl ?_
  cases hr
  rw [kr]
  exact x_ret rfl rfl rfl
theorem m_259 {scr : ASc} {B : Wd} {x0 : Int32} {x1 : Int32} {o : Unit} (hr : F_259 B x0 x1 = some o) : RnW scr 3 259 [.int x0, .int x1] B (.inl none) B :=
  x_methW (M := am_M259) rfl (show 2 ≤ 2 by decide) (f_259 (Nat.le_refl _) hr rfl)
/-- java/lang/StringLatin1.charAt([BI)C -/
def F_260 (B : Wd) (x0 : Nat) (x1 : Int32) : Option (Int32) :=
  (B.ln x0).bind fun v1 =>
  (F_259 B x1 v1).bind fun _ =>
  (B.aB x0 x1).bind fun v4 =>
  (if narrow .char (.int (((v4 &&& 255).toUInt32 % 65536).toInt32)) = .int (((v4 &&& 255).toUInt32 % 65536).toInt32) then some () else none).bind fun _ =>
  some (((v4 &&& 255).toUInt32 % 65536).toInt32)
theorem f_260 {d : Nat} (hd : 3 ≤ d) {scr : ASc} {res : ARe} {B : Wd} {x0 : Nat} {x1 : Int32} {o : Int32} (hr : F_260 B x0 x1 = some o) (kr : res = (.inl (some (.int o)), mk B, Wd.kc B, Wd.kn B)) : Ex d am_M260 scr (0, [some (.ref x0), some (.int x1)], [], (mk B), B.kc, B.kn) res := by
  delta F_260 at hr
  refine x_b 2 (S2 := (2, [some (.ref x0), some (.int x1)], [.ref x0, .int x1], (mk B), B.kc, B.kn)) rfl ?_
  obtain ⟨v1, h2, hr⟩ := bd_some hr
  refine x_ln rfl rfl h2 ?_
  obtain ⟨uh3, h3, hr⟩ := bd_some hr
  refine x_cW (m_259 h3) rfl rfl rfl rfl rfl (by omega) ?_
  refine x_b 2 (S2 := (8, [some (.ref x0), some (.int x1)], [.int x1, .ref x0], (mk B), B.kc, B.kn)) rfl ?_
  obtain ⟨v4, h5, hr⟩ := bd_some hr
  refine x_aB rfl rfl h5 ?_
  refine x_b 3 (S2 := (14, [some (.ref x0), some (.int x1)], [.int (((v4 &&& 255).toUInt32 % 65536).toInt32)], (mk B), B.kc, B.kn)) rfl ?_
  obtain ⟨uh7, h7, hr⟩ := bd_some hr
  obtain ⟨h6, -⟩ := itn_some h7
  cases hr
  rw [kr]
  exact x_ret rfl rfl (if_pos h6)
theorem m_260 {scr : ASc} {B : Wd} {x0 : Nat} {x1 : Int32} {o : Int32} (hr : F_260 B x0 x1 = some o) : RnW scr 4 260 [.ref x0, .int x1] B (.inl (some (.int o))) B :=
  x_methW (M := am_M260) rfl (show 2 ≤ 2 by decide) (f_260 (Nat.le_refl _) hr rfl)
/-- java/lang/String.charAt(I)C -/
def F_256 (B : Wd) (x0 : Nat) (x1 : Int32) : Option (Int32) :=
  (B.rs x0).bind fun _ =>
  (F_258 B x0).bind fun v3 =>
  if v3 = 0 then
    (B.gR x0 8 0).bind fun v5 =>
    none
  else
    (B.gR x0 8 0).bind fun v7 =>
    (F_260 B v7 x1).bind fun v10 =>
    (if narrow .char (.int v10) = .int v10 then some () else none).bind fun _ =>
    some v10
theorem f_256 {d : Nat} (hd : 4 ≤ d) {scr : ASc} {res : ARe} {B : Wd} {x0 : Nat} {x1 : Int32} {o : Int32} (hr : F_256 B x0 x1 = some o) (kr : res = (.inl (some (.int o)), mk B, Wd.kc B, Wd.kn B)) : Ex d am_M256 scr (0, [some (.ref x0), some (.int x1)], [], (mk B), B.kc, B.kn) res := by
  delta F_256 at hr
  refine x_b 1 (S2 := (1, [some (.ref x0), some (.int x1)], [.ref x0], (mk B), B.kc, B.kn)) rfl ?_
  obtain ⟨uh1, h1, hr⟩ := bd_some hr
  obtain ⟨v3, h2, hr⟩ := bd_some hr
  refine x_cW (m_258 h2) rfl rfl rfl rfl (am_recv_x h1) (by omega) ?_
  rcases ite_some hr with ⟨h4, hr⟩ | ⟨h4, hr⟩
  · refine x_zt rfl rfl (decide_eq_true h4) ?_
    refine x_b 1 (S2 := (17, [some (.ref x0), some (.int x1)], [.ref x0], (mk B), B.kc, B.kn)) rfl ?_
    obtain ⟨v5, h6, hr⟩ := bd_some hr
    refine x_gR rfl rfl h6 ?_
    refine x_b 1 (S2 := (21, [some (.ref x0), some (.int x1)], [.int x1, .ref v5], (mk B), B.kc, B.kn)) rfl ?_
    cases hr
  · refine x_zf rfl rfl (decide_eq_false h4) ?_
    refine x_b 1 (S2 := (8, [some (.ref x0), some (.int x1)], [.ref x0], (mk B), B.kc, B.kn)) rfl ?_
    obtain ⟨v7, h8, hr⟩ := bd_some hr
    refine x_gR rfl rfl h8 ?_
    refine x_b 1 (S2 := (12, [some (.ref x0), some (.int x1)], [.int x1, .ref v7], (mk B), B.kc, B.kn)) rfl ?_
    obtain ⟨v10, h9, hr⟩ := bd_some hr
    refine x_cW (m_260 h9) rfl rfl rfl rfl rfl (by omega) ?_
    obtain ⟨uh12, h12, hr⟩ := bd_some hr
    obtain ⟨h11, -⟩ := itn_some h12
    cases hr
    rw [kr]
    exact x_ret rfl rfl (if_pos h11)
theorem m_256 {scr : ASc} {B : Wd} {x0 : Nat} {x1 : Int32} {o : Int32} (hr : F_256 B x0 x1 = some o) : RnW scr 5 256 [.ref x0, .int x1] B (.inl (some (.int o))) B :=
  x_methW (M := am_M256) rfl (show 2 ≤ 2 by decide) (f_256 (Nat.le_refl _) hr rfl)
/-- java/lang/AbstractStringBuilder.<init>(I)V -/
def F_318 (B : Wd) (x0 : Nat) (x1 : Int32) : Option (Wd) :=
  (if x0 < am_SB then some () else none).bind fun _ =>
  if 1 = 0 then
    none
  else
    (B.nA 2 x1).bind fun (a4, B5) =>
    (B5.pv x0 9 0 (.ref a4)).bind fun B7 =>
    (B7.pv x0 9 1 (.int 0)).bind fun B9 =>
    some B9
theorem f_318 {d : Nat} (hd : 1 ≤ d) {scr : ASc} {res : ARe} {B : Wd} {x0 : Nat} {x1 : Int32} {o : Wd} (hr : F_318 B x0 x1 = some o) (kr : res = (.inl none, mk o, Wd.kc o, Wd.kn o)) : Ex d am_M318 scr (0, [some (.ref x0), some (.int x1)], [], (mk B), B.kc, B.kn) res := by
  delta F_318 at hr
  refine x_b 1 (S2 := (1, [some (.ref x0), some (.int x1)], [.ref x0], (mk B), B.kc, B.kn)) rfl ?_
  obtain ⟨uh2, h2, hr⟩ := bd_some hr
  obtain ⟨h1, -⟩ := itn_some h2
  refine x_obj rfl rfl h1 (Nat.le_of_ble_eq_true rfl) ?_
  refine x_b 1 (S2 := (7, [some (.ref x0), some (.int x1)], [.int 1], (mk B), B.kc, B.kn)) rfl ?_
  rcases ite_some hr with ⟨h3, hr⟩ | ⟨h3, hr⟩
  · refine x_zt rfl rfl (decide_eq_true h3) ?_
    refine x_b 2 (S2 := (27, [some (.ref x0), some (.int x1)], [.int x1, .ref x0], (mk B), B.kc, B.kn)) rfl ?_
    cases hr
  · refine x_zf rfl rfl (decide_eq_false h3) ?_
    refine x_b 2 (S2 := (12, [some (.ref x0), some (.int x1)], [.int x1, .ref x0], (mk B), B.kc, B.kn)) rfl ?_
    obtain ⟨⟨a4, B5⟩, h6, hr⟩ := bd_some hr
    refine x_nA rfl rfl (.inr (.inr ⟨rfl, rfl⟩)) h6 ?_
    obtain ⟨B7, h8, hr⟩ := bd_some hr
    refine x_pv rfl rfl h8 ?_
    refine x_b 2 (S2 := (19, [some (.ref x0), some (.int x1)], [.int 0, .ref x0], (mk B7), B7.kc, B7.kn)) rfl ?_
    obtain ⟨B9, h10, hr⟩ := bd_some hr
    refine x_pv rfl rfl h10 ?_
    refine x_b 1 (S2 := (38, [some (.ref x0), some (.int x1)], [], (mk B9), B9.kc, B9.kn)) rfl ?_
    cases hr
    rw [kr]
    exact x_ret rfl rfl rfl
theorem m_318 {scr : ASc} {B : Wd} {x0 : Nat} {x1 : Int32} {o : Wd} (hr : F_318 B x0 x1 = some o) : RnW scr 2 318 [.ref x0, .int x1] B (.inl none) o :=
  x_methW (M := am_M318) rfl (show 2 ≤ 2 by decide) (f_318 (Nat.le_refl _) hr rfl)
def J_364_0_j21 (B : Wd) (x0 : Int32) (x1 : Int32) : Option (Int32) :=
  none
theorem j_364_0_j21 {d : Nat} (hd : 1 ≤ d) {scr : ASc} {res : ARe} {B : Wd} {x0 : Int32} {x1 : Int32} {o : Int32} (hr : J_364_0_j21 B x0 x1 = some o) (kr : res = (.inl (some (.int o)), mk B, Wd.kc B, Wd.kn B)) : Ex d am_M364 scr (21, [some (.int x0), some (.int x1), none, none], [], (mk B), B.kc, B.kn) res := by
  delta J_364_0_j21 at hr
  refine x_b 2 (S2 := (23, [some (.int x0), some (.int x1), none, none], [.int x1, .int x0], (mk B), B.kc, B.kn)) rfl ?_
  cases hr
/-- jdk/internal/util/ArraysSupport.newLength(III)I -/
def F_364 (B : Wd) (x0 : Int32) (x1 : Int32) (x2 : Int32) : Option (Int32) :=
  if (x0 + (imx x1 x2)) ≤ 0 then
    J_364_0_j21 B x0 x1
  else
    if (2147483639 : Int32) < (x0 + (imx x1 x2)) then
      J_364_0_j21 B x0 x1
    else
      some (x0 + (imx x1 x2))
theorem f_364 {d : Nat} (hd : 1 ≤ d) {scr : ASc} {res : ARe} {B : Wd} {x0 : Int32} {x1 : Int32} {x2 : Int32} {o : Int32} (hr : F_364 B x0 x1 x2 = some o) (kr : res = (.inl (some (.int o)), mk B, Wd.kc B, Wd.kn B)) : Ex d am_M364 scr (0, [some (.int x0), some (.int x1), some (.int x2), none], [], (mk B), B.kc, B.kn) res := by
  delta F_364 at hr
  refine x_b 8 (S2 := (10, [some (.int x0), some (.int x1), some (.int x2), some (.int (x0 + (imx x1 x2)))], [.int (x0 + (imx x1 x2)), .int 0], (mk B), B.kc, B.kn)) rfl ?_
  rcases ite_some hr with ⟨h1, hr⟩ | ⟨h1, hr⟩
  · refine x_ct rfl rfl (decide_eq_true h1) ?_
    refine x_fg (Lq.s (Lq.s (Lq.n (Lq.n Lq.nil)))) ?_
    exact j_364_0_j21 hd hr kr
  · refine x_cf rfl rfl (decide_eq_false h1) ?_
    refine x_b 2 (S2 := (16, [some (.int x0), some (.int x1), some (.int x2), some (.int (x0 + (imx x1 x2)))], [.int (2147483639 : Int32), .int (x0 + (imx x1 x2))], (mk B), B.kc, B.kn)) rfl ?_
    rcases ite_some hr with ⟨h2, hr⟩ | ⟨h2, hr⟩
    · refine x_ct rfl rfl (decide_eq_true h2) ?_
      refine x_fg (Lq.s (Lq.s (Lq.n (Lq.n Lq.nil)))) ?_
      exact j_364_0_j21 hd hr kr
    · refine x_cf rfl rfl (decide_eq_false h2) ?_
      refine x_b 1 (S2 := (20, [some (.int x0), some (.int x1), some (.int x2), some (.int (x0 + (imx x1 x2)))], [.int (x0 + (imx x1 x2))], (mk B), B.kc, B.kn)) rfl ?_
      cases hr
      rw [kr]
      exact x_ret rfl rfl am_ret_i
theorem m_364 {scr : ASc} {B : Wd} {x0 : Int32} {x1 : Int32} {x2 : Int32} {o : Int32} (hr : F_364 B x0 x1 x2 = some o) : RnW scr 2 364 [.int x0, .int x1, .int x2] B (.inl (some (.int o))) B :=
  x_methW (M := am_M364) rfl (show 3 ≤ 4 by decide) (f_364 (Nat.le_refl _) hr rfl)
/-- java/lang/AbstractStringBuilder.newCapacity(I)I -/
def F_321 (B : Wd) (x0 : Nat) (x1 : Int32) : Option (Int32) :=
  (B.gR x0 9 0).bind fun v1 =>
  (B.ln v1).bind fun v3 =>
  (B.gI x0 9 1).bind fun v5 =>
  (B.gI x0 9 1).bind fun v7 =>
  (F_364 B v3 ((x1 <<< (v5 &&& 31)) - v3) (v3 + (2 <<< (v7 &&& 31)))).bind fun v10 =>
  if ¬ v10 = (2147483647 : Int32) then
    (B.gI x0 9 1).bind fun v12 =>
    some (v10 >>> (v12 &&& 31))
  else
    none
theorem f_321 {d : Nat} (hd : 2 ≤ d) {scr : ASc} {res : ARe} {B : Wd} {x0 : Nat} {x1 : Int32} {o : Int32} (hr : F_321 B x0 x1 = some o) (kr : res = (.inl (some (.int o)), mk B, Wd.kc B, Wd.kn B)) : Ex d am_M321 scr (0, [some (.ref x0), some (.int x1), none, none, none, none], [], (mk B), B.kc, B.kn) res := by
  delta F_321 at hr
  refine x_b 1 (S2 := (1, [some (.ref x0), some (.int x1), none, none, none, none], [.ref x0], (mk B), B.kc, B.kn)) rfl ?_
  obtain ⟨v1, h2, hr⟩ := bd_some hr
  refine x_gR rfl rfl h2 ?_
  obtain ⟨v3, h4, hr⟩ := bd_some hr
  refine x_ln rfl rfl h4 ?_
  refine x_b 3 (S2 := (8, [some (.ref x0), some (.int x1), some (.int v3), none, none, none], [.ref x0, .int x1], (mk B), B.kc, B.kn)) rfl ?_
  obtain ⟨v5, h6, hr⟩ := bd_some hr
  refine x_gI rfl rfl h6 ?_
  refine x_b 11 (S2 := (24, [some (.ref x0), some (.int x1), some (.int v3), some (.int (x1 <<< (v5 &&& 31))), some (.int ((x1 <<< (v5 &&& 31)) - v3)), none], [.ref x0, .int 2, .int v3, .int ((x1 <<< (v5 &&& 31)) - v3), .int v3], (mk B), B.kc, B.kn)) rfl ?_
  obtain ⟨v7, h8, hr⟩ := bd_some hr
  refine x_gI rfl rfl h8 ?_
  refine x_b 2 (S2 := (29, [some (.ref x0), some (.int x1), some (.int v3), some (.int (x1 <<< (v5 &&& 31))), some (.int ((x1 <<< (v5 &&& 31)) - v3)), none], [.int (v3 + (2 <<< (v7 &&& 31))), .int ((x1 <<< (v5 &&& 31)) - v3), .int v3], (mk B), B.kc, B.kn)) rfl ?_
  obtain ⟨v10, h9, hr⟩ := bd_some hr
  refine x_cW (m_364 h9) rfl rfl rfl rfl rfl (by omega) ?_
  refine x_b 3 (S2 := (38, [some (.ref x0), some (.int x1), some (.int v3), some (.int (x1 <<< (v5 &&& 31))), some (.int ((x1 <<< (v5 &&& 31)) - v3)), some (.int v10)], [.int (2147483647 : Int32), .int v10], (mk B), B.kc, B.kn)) rfl ?_
  rcases ite_some hr with ⟨h11, hr⟩ | ⟨h11, hr⟩
  · refine x_ct rfl rfl (decide_eq_true h11) ?_
    refine x_b 2 (S2 := (54, [some (.ref x0), some (.int x1), some (.int v3), some (.int (x1 <<< (v5 &&& 31))), some (.int ((x1 <<< (v5 &&& 31)) - v3)), some (.int v10)], [.ref x0, .int v10], (mk B), B.kc, B.kn)) rfl ?_
    obtain ⟨v12, h13, hr⟩ := bd_some hr
    refine x_gI rfl rfl h13 ?_
    refine x_b 1 (S2 := (58, [some (.ref x0), some (.int x1), some (.int v3), some (.int (x1 <<< (v5 &&& 31))), some (.int ((x1 <<< (v5 &&& 31)) - v3)), some (.int v10)], [.int (v10 >>> (v12 &&& 31))], (mk B), B.kc, B.kn)) rfl ?_
    cases hr
    rw [kr]
    exact x_ret rfl rfl am_ret_i
  · refine x_cf rfl rfl (decide_eq_false h11) ?_
    cases hr
theorem m_321 {scr : ASc} {B : Wd} {x0 : Nat} {x1 : Int32} {o : Int32} (hr : F_321 B x0 x1 = some o) : RnW scr 3 321 [.ref x0, .int x1] B (.inl (some (.int o))) B :=
  x_methW (M := am_M321) rfl (show 2 ≤ 6 by decide) (f_321 (Nat.le_refl _) hr rfl)
/-- java/util/Arrays.copyOf([BI)[B -/
def F_359 (B : Wd) (x0 : Nat) (x1 : Int32) : Option (Nat × Wd) :=
  (B.ln x0).bind fun v1 =>
  if ¬ x1 = v1 then
    (B.nA 2 x1).bind fun (a4, B5) =>
    (B5.ln x0).bind fun v7 =>
    (B5.cp x0 0 a4 0 (imn v7 x1)).bind fun B9 =>
    (if a4 < am_SB then some () else none).bind fun _ =>
    some (a4, B9)
  else
    (B.nC 2 x0).bind fun (a13, B14) =>
    (B14.ra a13 2).bind fun _ =>
    (if a13 < am_SB then some () else none).bind fun _ =>
    some (a13, B14)
theorem f_359 {d : Nat} (hd : 1 ≤ d) {scr : ASc} {res : ARe} {B : Wd} {x0 : Nat} {x1 : Int32} {o : Nat × Wd} (hr : F_359 B x0 x1 = some o) (kr : res = (.inl (some (.ref o.1)), mk o.2, Wd.kc o.2, Wd.kn o.2)) : Ex d am_M359 scr (0, [some (.ref x0), some (.int x1), none], [], (mk B), B.kc, B.kn) res := by
  delta F_359 at hr
  refine x_b 2 (S2 := (2, [some (.ref x0), some (.int x1), none], [.ref x0, .int x1], (mk B), B.kc, B.kn)) rfl ?_
  obtain ⟨v1, h2, hr⟩ := bd_some hr
  refine x_ln rfl rfl h2 ?_
  rcases ite_some hr with ⟨h3, hr⟩ | ⟨h3, hr⟩
  · refine x_ct rfl rfl (decide_eq_true h3) ?_
    refine x_b 1 (S2 := (15, [some (.ref x0), some (.int x1), none], [.int x1], (mk B), B.kc, B.kn)) rfl ?_
    obtain ⟨⟨a4, B5⟩, h6, hr⟩ := bd_some hr
    refine x_nA rfl rfl (.inr (.inr ⟨rfl, rfl⟩)) h6 ?_
    refine x_b 6 (S2 := (23, [some (.ref x0), some (.int x1), some (.ref a4)], [.ref x0, .int 0, .ref a4, .int 0, .ref x0], (mk B5), B5.kc, B5.kn)) rfl ?_
    obtain ⟨v7, h8, hr⟩ := bd_some hr
    refine x_ln rfl rfl h8 ?_
    refine x_b 2 (S2 := (28, [some (.ref x0), some (.int x1), some (.ref a4)], [.int (imn v7 x1), .int 0, .ref a4, .int 0, .ref x0], (mk B5), B5.kc, B5.kn)) rfl ?_
    obtain ⟨B9, h10, hr⟩ := bd_some hr
    refine x_cp rfl rfl (Nat.le_of_ble_eq_true rfl) h10 ?_
    refine x_b 1 (S2 := (32, [some (.ref x0), some (.int x1), some (.ref a4)], [.ref a4], (mk B9), B9.kc, B9.kn)) rfl ?_
    obtain ⟨uh12, h12, hr⟩ := bd_some hr
    obtain ⟨h11, -⟩ := itn_some h12
    cases hr
    rw [kr]
    exact x_ret rfl rfl (am_ret_y h11)
  · refine x_cf rfl rfl (decide_eq_false h3) ?_
    refine x_b 1 (S2 := (7, [some (.ref x0), some (.int x1), none], [.ref x0], (mk B), B.kc, B.kn)) rfl ?_
    obtain ⟨⟨a13, B14⟩, h15, hr⟩ := bd_some hr
    refine x_nC rfl rfl (Nat.le_of_ble_eq_true rfl) (.inr ⟨rfl, rfl⟩) h15 ?_
    obtain ⟨uh16, h16, hr⟩ := bd_some hr
    refine x_ckA (t := 2) rfl rfl h16 ?_
    obtain ⟨uh18, h18, hr⟩ := bd_some hr
    obtain ⟨h17, -⟩ := itn_some h18
    cases hr
    rw [kr]
    exact x_ret rfl rfl (am_ret_y h17)
theorem m_359 {scr : ASc} {B : Wd} {x0 : Nat} {x1 : Int32} {o : Nat × Wd} (hr : F_359 B x0 x1 = some o) : RnW scr 2 359 [.ref x0, .int x1] B (.inl (some (.ref o.1))) o.2 :=
  x_methW (M := am_M359) rfl (show 2 ≤ 3 by decide) (f_359 (Nat.le_refl _) hr rfl)
def J_320_0_j38 (B : Wd) : Option (Wd) :=
  some B
theorem j_320_0_j38 {d : Nat} (hd : 3 ≤ d) {scr : ASc} {res : ARe} {B : Wd} {o : Wd} (hr : J_320_0_j38 B = some o) (kr : res = (.inl none, mk o, Wd.kc o, Wd.kn o)) : Ex d am_M320 scr (38, [none, none, none], [], (mk B), B.kc, B.kn) res := by
  delta J_320_0_j38 at hr
  cases hr
  rw [kr]
  exact x_ret rfl rfl rfl
/-- java/lang/AbstractStringBuilder.ensureCapacityInternal(I)V -/
def F_320 (B : Wd) (x0 : Nat) (x1 : Int32) : Option (Wd) :=
  (B.gR x0 9 0).bind fun v1 =>
  (B.ln v1).bind fun v3 =>
  (B.gI x0 9 1).bind fun v5 =>
  if (x1 - (v3 >>> (v5 &&& 31))) ≤ 0 then
    J_320_0_j38 B
  else
    (B.gR x0 9 0).bind fun v8 =>
    (B.rc x0 9).bind fun _ =>
    (F_321 B x0 x1).bind fun v12 =>
    (B.gI x0 9 1).bind fun v13 =>
    (F_359 B v8 (v12 <<< (v13 &&& 31))).bind fun (a16, B17) =>
    (B17.pv x0 9 0 (.ref a16)).bind fun B18 =>
    J_320_0_j38 B18
theorem f_320 {d : Nat} (hd : 3 ≤ d) {scr : ASc} {res : ARe} {B : Wd} {x0 : Nat} {x1 : Int32} {o : Wd} (hr : F_320 B x0 x1 = some o) (kr : res = (.inl none, mk o, Wd.kc o, Wd.kn o)) : Ex d am_M320 scr (0, [some (.ref x0), some (.int x1), none], [], (mk B), B.kc, B.kn) res := by
  delta F_320 at hr
  refine x_b 1 (S2 := (1, [some (.ref x0), some (.int x1), none], [.ref x0], (mk B), B.kc, B.kn)) rfl ?_
  obtain ⟨v1, h2, hr⟩ := bd_some hr
  refine x_gR rfl rfl h2 ?_
  obtain ⟨v3, h4, hr⟩ := bd_some hr
  refine x_ln rfl rfl h4 ?_
  refine x_b 1 (S2 := (6, [some (.ref x0), some (.int x1), none], [.ref x0, .int v3], (mk B), B.kc, B.kn)) rfl ?_
  obtain ⟨v5, h6, hr⟩ := bd_some hr
  refine x_gI rfl rfl h6 ?_
  refine x_b 5 (S2 := (14, [some (.ref x0), some (.int x1), some (.int (v3 >>> (v5 &&& 31)))], [.int (x1 - (v3 >>> (v5 &&& 31)))], (mk B), B.kc, B.kn)) rfl ?_
  rcases ite_some hr with ⟨h7, hr⟩ | ⟨h7, hr⟩
  · refine x_zt rfl rfl (decide_eq_true h7) ?_
    refine x_fg (Lq.n (Lq.n (Lq.n Lq.nil))) ?_
    exact j_320_0_j38 hd hr kr
  · refine x_zf rfl rfl (decide_eq_false h7) ?_
    refine x_b 2 (S2 := (19, [some (.ref x0), some (.int x1), some (.int (v3 >>> (v5 &&& 31)))], [.ref x0, .ref x0], (mk B), B.kc, B.kn)) rfl ?_
    obtain ⟨v8, h9, hr⟩ := bd_some hr
    refine x_gR rfl rfl h9 ?_
    refine x_b 2 (S2 := (24, [some (.ref x0), some (.int x1), some (.int (v3 >>> (v5 &&& 31)))], [.int x1, .ref x0, .ref v8, .ref x0], (mk B), B.kc, B.kn)) rfl ?_
    obtain ⟨uh10, h10, hr⟩ := bd_some hr
    obtain ⟨v12, h11, hr⟩ := bd_some hr
    refine x_cW (m_321 h11) rfl rfl rfl rfl (am_recv_c h10 (.inr ⟨rfl, rfl⟩)) (by omega) ?_
    refine x_b 1 (S2 := (28, [some (.ref x0), some (.int x1), some (.int (v3 >>> (v5 &&& 31)))], [.ref x0, .int v12, .ref v8, .ref x0], (mk B), B.kc, B.kn)) rfl ?_
    obtain ⟨v13, h14, hr⟩ := bd_some hr
    refine x_gI rfl rfl h14 ?_
    refine x_b 1 (S2 := (32, [some (.ref x0), some (.int x1), some (.int (v3 >>> (v5 &&& 31)))], [.int (v12 <<< (v13 &&& 31)), .ref v8, .ref x0], (mk B), B.kc, B.kn)) rfl ?_
    obtain ⟨⟨a16, B17⟩, h15, hr⟩ := bd_some hr
    refine x_cW (m_359 h15) rfl rfl rfl rfl rfl (by omega) ?_
    obtain ⟨B18, h19, hr⟩ := bd_some hr
    refine x_pv rfl rfl h19 ?_
    refine x_fg (Lq.n (Lq.n (Lq.n Lq.nil))) ?_
    exact j_320_0_j38 hd hr kr
theorem m_320 {scr : ASc} {B : Wd} {x0 : Nat} {x1 : Int32} {o : Wd} (hr : F_320 B x0 x1 = some o) : RnW scr 4 320 [.ref x0, .int x1] B (.inl none) o :=
  x_methW (M := am_M320) rfl (show 2 ≤ 3 by decide) (f_320 (Nat.le_refl _) hr rfl)
def J_324_0_j21 (B : Wd) : Option (Unit) :=
  some ()
theorem j_324_0_j21 {d : Nat} (hd : 2 ≤ d) {scr : ASc} {res : ARe} {B : Wd} {o : Unit} (hr : J_324_0_j21 B = some o) (kr : res = (.inl none, mk B, Wd.kc B, Wd.kn B)) : Ex d am_M324 scr (21, [none, none], [], (mk B), B.kc, B.kn) res := by
  delta J_324_0_j21 at hr
  cases hr
  rw [kr]
  exact x_ret rfl rfl rfl
/-- java/lang/AbstractStringBuilder.inflateIfNeededFor(Ljava/lang/String;)V -/
def F_324 (B : Wd) (x0 : Nat) (x1 : Nat) : Option (Unit) :=
  if 1 = 0 then
    J_324_0_j21 B
  else
    (B.gI x0 9 1).bind fun v2 =>
    (B.rs x1).bind fun _ =>
    (F_257 B x1).bind fun v6 =>
    if v2 = v6 then
      J_324_0_j21 B
    else
      none
theorem f_324 {d : Nat} (hd : 2 ≤ d) {scr : ASc} {res : ARe} {B : Wd} {x0 : Nat} {x1 : Nat} {o : Unit} (hr : F_324 B x0 x1 = some o) (kr : res = (.inl none, mk B, Wd.kc B, Wd.kn B)) : Ex d am_M324 scr (0, [some (.ref x0), some (.ref x1)], [], (mk B), B.kc, B.kn) res := by
  delta F_324 at hr
  refine x_b 1 (S2 := (3, [some (.ref x0), some (.ref x1)], [.int 1], (mk B), B.kc, B.kn)) rfl ?_
  rcases ite_some hr with ⟨h1, hr⟩ | ⟨h1, hr⟩
  · refine x_zt rfl rfl (decide_eq_true h1) ?_
    refine x_fg (Lq.n (Lq.n Lq.nil)) ?_
    exact j_324_0_j21 hd hr kr
  · refine x_zf rfl rfl (decide_eq_false h1) ?_
    refine x_b 1 (S2 := (7, [some (.ref x0), some (.ref x1)], [.ref x0], (mk B), B.kc, B.kn)) rfl ?_
    obtain ⟨v2, h3, hr⟩ := bd_some hr
    refine x_gI rfl rfl h3 ?_
    refine x_b 1 (S2 := (11, [some (.ref x0), some (.ref x1)], [.ref x1, .int v2], (mk B), B.kc, B.kn)) rfl ?_
    obtain ⟨uh4, h4, hr⟩ := bd_some hr
    obtain ⟨v6, h5, hr⟩ := bd_some hr
    refine x_cW (m_257 h5) rfl rfl rfl rfl (am_recv_x h4) (by omega) ?_
    rcases ite_some hr with ⟨h7, hr⟩ | ⟨h7, hr⟩
    · refine x_ct rfl rfl (decide_eq_true h7) ?_
      refine x_fg (Lq.n (Lq.n Lq.nil)) ?_
      exact j_324_0_j21 hd hr kr
    · refine x_cf rfl rfl (decide_eq_false h7) ?_
      refine x_b 1 (S2 := (18, [some (.ref x0), some (.ref x1)], [.ref x0], (mk B), B.kc, B.kn)) rfl ?_
      cases hr
theorem m_324 {scr : ASc} {B : Wd} {x0 : Nat} {x1 : Nat} {o : Unit} (hr : F_324 B x0 x1 = some o) : RnW scr 3 324 [.ref x0, .ref x1] B (.inl none) B :=
  x_methW (M := am_M324) rfl (show 2 ≤ 2 by decide) (f_324 (Nat.le_refl _) hr rfl)
/-- java/lang/String.getBytes([BIB)V -/
def F_329 (B : Wd) (x0 : Nat) (x1 : Nat) (x2 : Int32) (x3 : Int32) : Option (Wd) :=
  (B.rs x0).bind fun _ =>
  (F_257 B x0).bind fun v3 =>
  if ¬ v3 = x3 then
    (B.gR x0 8 0).bind fun v5 =>
    (B.gR x0 8 0).bind fun v7 =>
    (B.ln v7).bind fun v9 =>
    none
  else
    (B.gR x0 8 0).bind fun v11 =>
    (B.gR x0 8 0).bind fun v13 =>
    (B.ln v13).bind fun v15 =>
    (B.cp v11 0 x1 (x2 <<< (x3 &&& 31)) v15).bind fun B17 =>
    some B17
theorem f_329 {d : Nat} (hd : 2 ≤ d) {scr : ASc} {res : ARe} {B : Wd} {x0 : Nat} {x1 : Nat} {x2 : Int32} {x3 : Int32} {o : Wd} (hr : F_329 B x0 x1 x2 x3 = some o) (kr : res = (.inl none, mk o, Wd.kc o, Wd.kn o)) : Ex d am_M329 scr (0, [some (.ref x0), some (.ref x1), some (.int x2), some (.int x3)], [], (mk B), B.kc, B.kn) res := by
  delta F_329 at hr
  refine x_b 1 (S2 := (1, [some (.ref x0), some (.ref x1), some (.int x2), some (.int x3)], [.ref x0], (mk B), B.kc, B.kn)) rfl ?_
  obtain ⟨uh1, h1, hr⟩ := bd_some hr
  obtain ⟨v3, h2, hr⟩ := bd_some hr
  refine x_cW (m_257 h2) rfl rfl rfl rfl (am_recv_x h1) (by omega) ?_
  refine x_b 1 (S2 := (5, [some (.ref x0), some (.ref x1), some (.int x2), some (.int x3)], [.int x3, .int v3], (mk B), B.kc, B.kn)) rfl ?_
  rcases ite_some hr with ⟨h4, hr⟩ | ⟨h4, hr⟩
  · refine x_ct rfl rfl (decide_eq_true h4) ?_
    refine x_b 1 (S2 := (29, [some (.ref x0), some (.ref x1), some (.int x2), some (.int x3)], [.ref x0], (mk B), B.kc, B.kn)) rfl ?_
    obtain ⟨v5, h6, hr⟩ := bd_some hr
    refine x_gR rfl rfl h6 ?_
    refine x_b 4 (S2 := (36, [some (.ref x0), some (.ref x1), some (.int x2), some (.int x3)], [.ref x0, .int x2, .ref x1, .int 0, .ref v5], (mk B), B.kc, B.kn)) rfl ?_
    obtain ⟨v7, h8, hr⟩ := bd_some hr
    refine x_gR rfl rfl h8 ?_
    obtain ⟨v9, h10, hr⟩ := bd_some hr
    refine x_ln rfl rfl h10 ?_
    cases hr
  · refine x_cf rfl rfl (decide_eq_false h4) ?_
    refine x_b 1 (S2 := (9, [some (.ref x0), some (.ref x1), some (.int x2), some (.int x3)], [.ref x0], (mk B), B.kc, B.kn)) rfl ?_
    obtain ⟨v11, h12, hr⟩ := bd_some hr
    refine x_gR rfl rfl h12 ?_
    refine x_b 6 (S2 := (18, [some (.ref x0), some (.ref x1), some (.int x2), some (.int x3)], [.ref x0, .int (x2 <<< (x3 &&& 31)), .ref x1, .int 0, .ref v11], (mk B), B.kc, B.kn)) rfl ?_
    obtain ⟨v13, h14, hr⟩ := bd_some hr
    refine x_gR rfl rfl h14 ?_
    obtain ⟨v15, h16, hr⟩ := bd_some hr
    refine x_ln rfl rfl h16 ?_
    obtain ⟨B17, h18, hr⟩ := bd_some hr
    refine x_cp rfl rfl (Nat.le_of_ble_eq_true rfl) h18 ?_
    refine x_b 1 (S2 := (43, [some (.ref x0), some (.ref x1), some (.int x2), some (.int x3)], [], (mk B17), B17.kc, B17.kn)) rfl ?_
    cases hr
    rw [kr]
    exact x_ret rfl rfl rfl
theorem m_329 {scr : ASc} {B : Wd} {x0 : Nat} {x1 : Nat} {x2 : Int32} {x3 : Int32} {o : Wd} (hr : F_329 B x0 x1 x2 x3 = some o) : RnW scr 3 329 [.ref x0, .ref x1, .int x2, .int x3] B (.inl none) o :=
  x_methW (M := am_M329) rfl (show 4 ≤ 4 by decide) (f_329 (Nat.le_refl _) hr rfl)
/-- java/lang/AbstractStringBuilder.putStringAt(ILjava/lang/String;)V -/
def F_325 (B : Wd) (x0 : Nat) (x1 : Int32) (x2 : Nat) : Option (Wd) :=
  (B.rc x0 9).bind fun _ =>
  (F_324 B x0 x2).bind fun _ =>
  (B.gR x0 9 0).bind fun v3 =>
  (B.gI x0 9 1).bind fun v5 =>
  (B.rs x2).bind fun _ =>
  (F_329 B x2 v3 x1 v5).bind fun B9 =>
  some B9
theorem f_325 {d : Nat} (hd : 3 ≤ d) {scr : ASc} {res : ARe} {B : Wd} {x0 : Nat} {x1 : Int32} {x2 : Nat} {o : Wd} (hr : F_325 B x0 x1 x2 = some o) (kr : res = (.inl none, mk o, Wd.kc o, Wd.kn o)) : Ex d am_M325 scr (0, [some (.ref x0), some (.int x1), some (.ref x2)], [], (mk B), B.kc, B.kn) res := by
  delta F_325 at hr
  refine x_b 2 (S2 := (2, [some (.ref x0), some (.int x1), some (.ref x2)], [.ref x2, .ref x0], (mk B), B.kc, B.kn)) rfl ?_
  obtain ⟨uh1, h1, hr⟩ := bd_some hr
  obtain ⟨uh2, h2, hr⟩ := bd_some hr
  refine x_cW (m_324 h2) rfl rfl rfl rfl (am_recv_c h1 (.inr ⟨rfl, rfl⟩)) (by omega) ?_
  refine x_b 2 (S2 := (7, [some (.ref x0), some (.int x1), some (.ref x2)], [.ref x0, .ref x2], (mk B), B.kc, B.kn)) rfl ?_
  obtain ⟨v3, h4, hr⟩ := bd_some hr
  refine x_gR rfl rfl h4 ?_
  refine x_b 2 (S2 := (12, [some (.ref x0), some (.int x1), some (.ref x2)], [.ref x0, .int x1, .ref v3, .ref x2], (mk B), B.kc, B.kn)) rfl ?_
  obtain ⟨v5, h6, hr⟩ := bd_some hr
  refine x_gI rfl rfl h6 ?_
  obtain ⟨uh7, h7, hr⟩ := bd_some hr
  obtain ⟨B9, h8, hr⟩ := bd_some hr
  refine x_cW (m_329 h8) rfl rfl rfl rfl (am_recv_x h7) (by omega) ?_
  cases hr
  rw [kr]
  exact x_ret rfl rfl rfl
theorem m_325 {scr : ASc} {B : Wd} {x0 : Nat} {x1 : Int32} {x2 : Nat} {o : Wd} (hr : F_325 B x0 x1 x2 = some o) : RnW scr 4 325 [.ref x0, .int x1, .ref x2] B (.inl none) o :=
  x_methW (M := am_M325) rfl (show 3 ≤ 3 by decide) (f_325 (Nat.le_refl _) hr rfl)
/-- java/lang/AbstractStringBuilder.append(Ljava/lang/String;)Ljava/lang/AbstractStringBuilder; -/
def F_400 (B : Wd) (x0 : Nat) (x1 : Nat) : Option (Nat × Wd) :=
  (if ¬ x1 = am_SB + 1 then some () else none).bind fun _ =>
  (B.rs x1).bind fun _ =>
  (F_255 B x1).bind fun v5 =>
  (B.gI x0 9 3).bind fun v6 =>
  (B.rc x0 9).bind fun _ =>
  (F_320 B x0 (v6 + v5)).bind fun B10 =>
  (B10.gI x0 9 3).bind fun v11 =>
  (B10.rc x0 9).bind fun _ =>
  (F_325 B10 x0 v11 x1).bind fun B15 =>
  (B15.gI x0 9 3).bind fun v16 =>
  (B15.pv x0 9 3 (.int (v16 + v5))).bind fun B18 =>
  (if x0 < am_SB then some () else none).bind fun _ =>
  some (x0, B18)
theorem f_400 {d : Nat} (hd : 4 ≤ d) {scr : ASc} {res : ARe} {B : Wd} {x0 : Nat} {x1 : Nat} {o : Nat × Wd} (hr : F_400 B x0 x1 = some o) (kr : res = (.inl (some (.ref o.1)), mk o.2, Wd.kc o.2, Wd.kn o.2)) : Ex d am_M400 scr (0, [some (.ref x0), some (.ref x1), none], [], (mk B), B.kc, B.kn) res := by
  delta F_400 at hr
  refine x_b 1 (S2 := (1, [some (.ref x0), some (.ref x1), none], [.ref x1], (mk B), B.kc, B.kn)) rfl ?_
  obtain ⟨uh2, h2, hr⟩ := bd_some hr
  obtain ⟨h1, -⟩ := itn_some h2
  refine x_nulx rfl rfl h1 ?_
  refine x_b 1 (S2 := (10, [some (.ref x0), some (.ref x1), none], [.ref x1], (mk B), B.kc, B.kn)) rfl ?_
  obtain ⟨uh3, h3, hr⟩ := bd_some hr
  obtain ⟨v5, h4, hr⟩ := bd_some hr
  refine x_cW (m_255 h4) rfl rfl rfl rfl (am_recv_x h3) (by omega) ?_
  refine x_b 3 (S2 := (16, [some (.ref x0), some (.ref x1), some (.int v5)], [.ref x0, .ref x0], (mk B), B.kc, B.kn)) rfl ?_
  obtain ⟨v6, h7, hr⟩ := bd_some hr
  refine x_gI rfl rfl h7 ?_
  refine x_b 2 (S2 := (21, [some (.ref x0), some (.ref x1), some (.int v5)], [.int (v6 + v5), .ref x0], (mk B), B.kc, B.kn)) rfl ?_
  obtain ⟨uh8, h8, hr⟩ := bd_some hr
  obtain ⟨B10, h9, hr⟩ := bd_some hr
  refine x_cW (m_320 h9) rfl rfl rfl rfl (am_recv_c h8 (.inr ⟨rfl, rfl⟩)) (by omega) ?_
  refine x_b 2 (S2 := (26, [some (.ref x0), some (.ref x1), some (.int v5)], [.ref x0, .ref x0], (mk B10), B10.kc, B10.kn)) rfl ?_
  obtain ⟨v11, h12, hr⟩ := bd_some hr
  refine x_gI rfl rfl h12 ?_
  refine x_b 1 (S2 := (30, [some (.ref x0), some (.ref x1), some (.int v5)], [.ref x1, .int v11, .ref x0], (mk B10), B10.kc, B10.kn)) rfl ?_
  obtain ⟨uh13, h13, hr⟩ := bd_some hr
  obtain ⟨B15, h14, hr⟩ := bd_some hr
  refine x_cW (m_325 h14) rfl rfl rfl rfl (am_recv_c h13 (.inr ⟨rfl, rfl⟩)) (by omega) ?_
  refine x_b 2 (S2 := (35, [some (.ref x0), some (.ref x1), some (.int v5)], [.ref x0, .ref x0], (mk B15), B15.kc, B15.kn)) rfl ?_
  obtain ⟨v16, h17, hr⟩ := bd_some hr
  refine x_gI rfl rfl h17 ?_
  refine x_b 2 (S2 := (40, [some (.ref x0), some (.ref x1), some (.int v5)], [.int (v16 + v5), .ref x0], (mk B15), B15.kc, B15.kn)) rfl ?_
  obtain ⟨B18, h19, hr⟩ := bd_some hr
  refine x_pv rfl rfl h19 ?_
  refine x_b 1 (S2 := (44, [some (.ref x0), some (.ref x1), some (.int v5)], [.ref x0], (mk B18), B18.kc, B18.kn)) rfl ?_
  obtain ⟨uh21, h21, hr⟩ := bd_some hr
  obtain ⟨h20, -⟩ := itn_some h21
  cases hr
  rw [kr]
  exact x_ret rfl rfl (am_ret_h h20)
theorem m_400 {scr : ASc} {B : Wd} {x0 : Nat} {x1 : Nat} {o : Nat × Wd} (hr : F_400 B x0 x1 = some o) : RnW scr 5 400 [.ref x0, .ref x1] B (.inl (some (.ref o.1))) o.2 :=
  x_methW (M := am_M400) rfl (show 2 ≤ 3 by decide) (f_400 (Nat.le_refl _) hr rfl)
/-- java/lang/StringBuilder.append(Ljava/lang/String;)Ljava/lang/StringBuilder; -/
def F_333 (B : Wd) (x0 : Nat) (x1 : Nat) : Option (Nat × Wd) :=
  (B.rc x0 9).bind fun _ =>
  (F_400 B x0 x1).bind fun (a3, B4) =>
  (if x0 < am_SB then some () else none).bind fun _ =>
  some (x0, B4)
theorem f_333 {d : Nat} (hd : 5 ≤ d) {scr : ASc} {res : ARe} {B : Wd} {x0 : Nat} {x1 : Nat} {o : Nat × Wd} (hr : F_333 B x0 x1 = some o) (kr : res = (.inl (some (.ref o.1)), mk o.2, Wd.kc o.2, Wd.kn o.2)) : Ex d am_M333 scr (0, [some (.ref x0), some (.ref x1)], [], (mk B), B.kc, B.kn) res := by
  delta F_333 at hr
  refine x_b 2 (S2 := (2, [some (.ref x0), some (.ref x1)], [.ref x1, .ref x0], (mk B), B.kc, B.kn)) rfl ?_
  obtain ⟨uh1, h1, hr⟩ := bd_some hr
  obtain ⟨⟨a3, B4⟩, h2, hr⟩ := bd_some hr
  refine x_cW (m_400 h2) rfl rfl rfl rfl (am_recv_u h1 (by decide)) (by omega) ?_
  refine x_b 2 (S2 := (7, [some (.ref x0), some (.ref x1)], [.ref x0], (mk B4), B4.kc, B4.kn)) rfl ?_
  obtain ⟨uh6, h6, hr⟩ := bd_some hr
  obtain ⟨h5, -⟩ := itn_some h6
  cases hr
  rw [kr]
  exact x_ret rfl rfl (am_ret_h h5)
theorem m_333 {scr : ASc} {B : Wd} {x0 : Nat} {x1 : Nat} {o : Nat × Wd} (hr : F_333 B x0 x1 = some o) : RnW scr 6 333 [.ref x0, .ref x1] B (.inl (some (.ref o.1))) o.2 :=
  x_methW (M := am_M333) rfl (show 2 ≤ 2 by decide) (f_333 (Nat.le_refl _) hr rfl)
/-- java/lang/StringBuilder.append(Ljava/lang/String;)Ljava/lang/AbstractStringBuilder; -/
def F_337 (B : Wd) (x0 : Nat) (x1 : Nat) : Option (Nat × Wd) :=
  (B.rc x0 9).bind fun _ =>
  (F_333 B x0 x1).bind fun (a3, B4) =>
  (if a3 < am_SB then some () else none).bind fun _ =>
  some (a3, B4)
theorem f_337 {d : Nat} (hd : 6 ≤ d) {scr : ASc} {res : ARe} {B : Wd} {x0 : Nat} {x1 : Nat} {o : Nat × Wd} (hr : F_337 B x0 x1 = some o) (kr : res = (.inl (some (.ref o.1)), mk o.2, Wd.kc o.2, Wd.kn o.2)) : Ex d am_M337 scr (0, [some (.ref x0), some (.ref x1)], [], (mk B), B.kc, B.kn) res := by
  delta F_337 at hr
  refine x_b 2 (S2 := (2, [some (.ref x0), some (.ref x1)], [.ref x1, .ref x0], (mk B), B.kc, B.kn)) rfl ?_
  obtain ⟨uh1, h1, hr⟩ := bd_some hr
  obtain ⟨⟨a3, B4⟩, h2, hr⟩ := bd_some hr
  refine x_cW (m_333 h2) rfl rfl rfl rfl (am_recv_c h1 (.inl rfl)) (by omega) ?_
  obtain ⟨uh6, h6, hr⟩ := bd_some hr
  obtain ⟨h5, -⟩ := itn_some h6
  cases hr
  rw [kr]
  exact x_ret rfl rfl (am_ret_h h5)
theorem m_337 {scr : ASc} {B : Wd} {x0 : Nat} {x1 : Nat} {o : Nat × Wd} (hr : F_337 B x0 x1 = some o) : RnW scr 7 337 [.ref x0, .ref x1] B (.inl (some (.ref o.1))) o.2 :=
  x_methW (M := am_M337) rfl (show 2 ≤ 2 by decide) (f_337 (Nat.le_refl _) hr rfl)
def J_319_0_j24 (B : Wd) (x0 : Nat) (x1 : Nat) (t0 : Int32) : Option (Wd) :=
  (B.rs x1).bind fun _ =>
  (F_257 B x1).bind fun v9 =>
  (B.pv x0 9 1 (.int v9)).bind fun B10 =>
  if ¬ v9 = 0 then
    none
  else
    (B10.nA 2 t0).bind fun (a13, B14) =>
    (B14.pv x0 9 0 (.ref a13)).bind fun B16 =>
    (B16.rc x0 9).bind fun _ =>
    (F_337 B16 x0 x1).bind fun (a20, B21) =>
    some B21
theorem j_319_0_j24 {d : Nat} (hd : 7 ≤ d) {scr : ASc} {res : ARe} {B : Wd} {x0 : Nat} {x1 : Nat} {t0 : Int32} {o : Wd} (hr : J_319_0_j24 B x0 x1 t0 = some o) (kr : res = (.inl none, mk o, Wd.kc o, Wd.kn o)) : Ex d am_M319 scr (24, [some (.ref x0), some (.ref x1), none, none, none], [.int t0], (mk B), B.kc, B.kn) res := by
  delta J_319_0_j24 at hr
  refine x_b 2 (S2 := (26, [some (.ref x0), some (.ref x1), none, some (.int t0), none], [.ref x1], (mk B), B.kc, B.kn)) rfl ?_
  obtain ⟨uh7, h7, hr⟩ := bd_some hr
  obtain ⟨v9, h8, hr⟩ := bd_some hr
  refine x_cW (m_257 h8) rfl rfl rfl rfl (am_recv_x h7) (by omega) ?_
  refine x_b 3 (S2 := (34, [some (.ref x0), some (.ref x1), none, some (.int t0), some (.int v9)], [.int v9, .ref x0], (mk B), B.kc, B.kn)) rfl ?_
  obtain ⟨B10, h11, hr⟩ := bd_some hr
  refine x_pv rfl rfl h11 ?_
  refine x_b 2 (S2 := (40, [some (.ref x0), some (.ref x1), none, some (.int t0), some (.int v9)], [.int v9, .ref x0], (mk B10), B10.kc, B10.kn)) rfl ?_
  rcases ite_some hr with ⟨h12, hr⟩ | ⟨h12, hr⟩
  · refine x_zt rfl rfl (decide_eq_true h12) ?_
    refine x_b 1 (S2 := (50, [some (.ref x0), some (.ref x1), none, some (.int t0), some (.int v9)], [.int t0, .ref x0], (mk B10), B10.kc, B10.kn)) rfl ?_
    cases hr
  · refine x_zf rfl rfl (decide_eq_false h12) ?_
    refine x_b 1 (S2 := (44, [some (.ref x0), some (.ref x1), none, some (.int t0), some (.int v9)], [.int t0, .ref x0], (mk B10), B10.kc, B10.kn)) rfl ?_
    obtain ⟨⟨a13, B14⟩, h15, hr⟩ := bd_some hr
    refine x_nA rfl rfl (.inr (.inr ⟨rfl, rfl⟩)) h15 ?_
    refine x_b 1 (S2 := (53, [some (.ref x0), some (.ref x1), none, some (.int t0), some (.int v9)], [.ref a13, .ref x0], (mk B14), B14.kc, B14.kn)) rfl ?_
    obtain ⟨B16, h17, hr⟩ := bd_some hr
    refine x_pv rfl rfl h17 ?_
    refine x_b 2 (S2 := (58, [some (.ref x0), some (.ref x1), none, some (.int t0), some (.int v9)], [.ref x1, .ref x0], (mk B16), B16.kc, B16.kn)) rfl ?_
    obtain ⟨uh18, h18, hr⟩ := bd_some hr
    obtain ⟨⟨a20, B21⟩, h19, hr⟩ := bd_some hr
    refine x_cW (m_337 h19) rfl rfl rfl rfl (am_recv_c h18 (.inl rfl)) (by omega) ?_
    refine x_b 1 (S2 := (62, [some (.ref x0), some (.ref x1), none, some (.int t0), some (.int v9)], [], (mk B21), B21.kc, B21.kn)) rfl ?_
    cases hr
    rw [kr]
    exact x_ret rfl rfl rfl
/-- java/lang/AbstractStringBuilder.<init>(Ljava/lang/String;)V -/
def F_319 (B : Wd) (x0 : Nat) (x1 : Nat) : Option (Wd) :=
  (if x0 < am_SB then some () else none).bind fun _ =>
  (B.rs x1).bind fun _ =>
  (F_255 B x1).bind fun v5 =>
  if (2147483631 : Int32) ≤ v5 then
    J_319_0_j24 B x0 x1 (2147483647 : Int32)
  else
    J_319_0_j24 B x0 x1 (v5 + 16)
theorem f_319 {d : Nat} (hd : 7 ≤ d) {scr : ASc} {res : ARe} {B : Wd} {x0 : Nat} {x1 : Nat} {o : Wd} (hr : F_319 B x0 x1 = some o) (kr : res = (.inl none, mk o, Wd.kc o, Wd.kn o)) : Ex d am_M319 scr (0, [some (.ref x0), some (.ref x1), none, none, none], [], (mk B), B.kc, B.kn) res := by
  delta F_319 at hr
  refine x_b 1 (S2 := (1, [some (.ref x0), some (.ref x1), none, none, none], [.ref x0], (mk B), B.kc, B.kn)) rfl ?_
  obtain ⟨uh2, h2, hr⟩ := bd_some hr
  obtain ⟨h1, -⟩ := itn_some h2
  refine x_obj rfl rfl h1 (Nat.le_of_ble_eq_true rfl) ?_
  refine x_b 1 (S2 := (5, [some (.ref x0), some (.ref x1), none, none, none], [.ref x1], (mk B), B.kc, B.kn)) rfl ?_
  obtain ⟨uh3, h3, hr⟩ := bd_some hr
  obtain ⟨v5, h4, hr⟩ := bd_some hr
  refine x_cW (m_255 h4) rfl rfl rfl rfl (am_recv_x h3) (by omega) ?_
  refine x_b 3 (S2 := (12, [some (.ref x0), some (.ref x1), some (.int v5), none, none], [.int (2147483631 : Int32), .int v5], (mk B), B.kc, B.kn)) rfl ?_
  rcases ite_some hr with ⟨h6, hr⟩ | ⟨h6, hr⟩
  · refine x_ct rfl rfl (decide_eq_true h6) ?_
    refine x_b 1 (S2 := (24, [some (.ref x0), some (.ref x1), some (.int v5), none, none], [.int (2147483647 : Int32)], (mk B), B.kc, B.kn)) rfl ?_
    refine x_fg (Lq.s (Lq.s (Lq.n (Lq.s (Lq.s Lq.nil))))) ?_
    exact j_319_0_j24 hd hr kr
  · refine x_cf rfl rfl (decide_eq_false h6) ?_
    refine x_b 4 (S2 := (24, [some (.ref x0), some (.ref x1), some (.int v5), none, none], [.int (v5 + 16)], (mk B), B.kc, B.kn)) rfl ?_
    refine x_fg (Lq.s (Lq.s (Lq.n (Lq.s (Lq.s Lq.nil))))) ?_
    exact j_319_0_j24 hd hr kr
theorem m_319 {scr : ASc} {B : Wd} {x0 : Nat} {x1 : Nat} {o : Wd} (hr : F_319 B x0 x1 = some o) : RnW scr 8 319 [.ref x0, .ref x1] B (.inl none) o :=
  x_methW (M := am_M319) rfl (show 2 ≤ 5 by decide) (f_319 (Nat.le_refl _) hr rfl)
/-- java/lang/AbstractStringBuilder.getValue()[B -/
def F_322 (B : Wd) (x0 : Nat) : Option (Nat) :=
  (B.gR x0 9 0).bind fun v1 =>
  (if v1 < am_SB then some () else none).bind fun _ =>
  some v1
theorem f_322 {d : Nat} (hd : 1 ≤ d) {scr : ASc} {res : ARe} {B : Wd} {x0 : Nat} {o : Nat} (hr : F_322 B x0 = some o) (kr : res = (.inl (some (.ref o)), mk B, Wd.kc B, Wd.kn B)) : Ex d am_M322 scr (0, [some (.ref x0)], [], (mk B), B.kc, B.kn) res := by
  delta F_322 at hr
  refine x_b 1 (S2 := (1, [some (.ref x0)], [.ref x0], (mk B), B.kc, B.kn)) rfl ?_
  obtain ⟨v1, h2, hr⟩ := bd_some hr
  refine x_gR rfl rfl h2 ?_
  obtain ⟨uh4, h4, hr⟩ := bd_some hr
  obtain ⟨h3, -⟩ := itn_some h4
  cases hr
  rw [kr]
  exact x_ret rfl rfl (am_ret_y h3)
theorem m_322 {scr : ASc} {B : Wd} {x0 : Nat} {o : Nat} (hr : F_322 B x0 = some o) : RnW scr 2 322 [.ref x0] B (.inl (some (.ref o))) B :=
  x_methW (M := am_M322) rfl (show 1 ≤ 1 by decide) (f_322 (Nat.le_refl _) hr rfl)
def J_323_0_j18 (B : Wd) (t0 : Int32) : Option (Int32) :=
  (if t0 = 0 ∨ t0 = 1 then some () else none).bind fun _ =>
  some t0
theorem j_323_0_j18 {d : Nat} (hd : 1 ≤ d) {scr : ASc} {res : ARe} {B : Wd} {t0 : Int32} {o : Int32} (hr : J_323_0_j18 B t0 = some o) (kr : res = (.inl (some (.int o)), mk B, Wd.kc B, Wd.kn B)) : Ex d am_M323 scr (18, [none], [.int t0], (mk B), B.kc, B.kn) res := by
  delta J_323_0_j18 at hr
  obtain ⟨uh3, h3, hr⟩ := bd_some hr
  obtain ⟨h2, -⟩ := itn_some h3
  cases hr
  rw [kr]
  exact x_ret rfl rfl (am_ret_z h2)
def J_323_0_j17 (B : Wd) : Option (Int32) :=
  J_323_0_j18 B 0
theorem j_323_0_j17 {d : Nat} (hd : 1 ≤ d) {scr : ASc} {res : ARe} {B : Wd} {o : Int32} (hr : J_323_0_j17 B = some o) (kr : res = (.inl (some (.int o)), mk B, Wd.kc B, Wd.kn B)) : Ex d am_M323 scr (17, [none], [], (mk B), B.kc, B.kn) res := by
  delta J_323_0_j17 at hr
  refine x_b 1 (S2 := (18, [none], [.int 0], (mk B), B.kc, B.kn)) rfl ?_
  refine x_fg (Lq.s Lq.nil) ?_
  exact j_323_0_j18 hd hr kr
/-- java/lang/AbstractStringBuilder.isLatin1()Z -/
def F_323 (B : Wd) (x0 : Nat) : Option (Int32) :=
  if 1 = 0 then
    J_323_0_j17 B
  else
    (B.gI x0 9 1).bind fun v4 =>
    if ¬ v4 = 0 then
      J_323_0_j17 B
    else
      J_323_0_j18 B 1
theorem f_323 {d : Nat} (hd : 1 ≤ d) {scr : ASc} {res : ARe} {B : Wd} {x0 : Nat} {o : Int32} (hr : F_323 B x0 = some o) (kr : res = (.inl (some (.int o)), mk B, Wd.kc B, Wd.kn B)) : Ex d am_M323 scr (0, [some (.ref x0)], [], (mk B), B.kc, B.kn) res := by
  delta F_323 at hr
  refine x_b 1 (S2 := (3, [some (.ref x0)], [.int 1], (mk B), B.kc, B.kn)) rfl ?_
  rcases ite_some hr with ⟨h1, hr⟩ | ⟨h1, hr⟩
  · refine x_zt rfl rfl (decide_eq_true h1) ?_
    refine x_fg (Lq.n Lq.nil) ?_
    exact j_323_0_j17 hd hr kr
  · refine x_zf rfl rfl (decide_eq_false h1) ?_
    refine x_b 1 (S2 := (7, [some (.ref x0)], [.ref x0], (mk B), B.kc, B.kn)) rfl ?_
    obtain ⟨v4, h5, hr⟩ := bd_some hr
    refine x_gI rfl rfl h5 ?_
    rcases ite_some hr with ⟨h6, hr⟩ | ⟨h6, hr⟩
    · refine x_zt rfl rfl (decide_eq_true h6) ?_
      refine x_fg (Lq.n Lq.nil) ?_
      exact j_323_0_j17 hd hr kr
    · refine x_zf rfl rfl (decide_eq_false h6) ?_
      refine x_b 2 (S2 := (18, [some (.ref x0)], [.int 1], (mk B), B.kc, B.kn)) rfl ?_
      refine x_fg (Lq.n Lq.nil) ?_
      exact j_323_0_j18 hd hr kr
theorem m_323 {scr : ASc} {B : Wd} {x0 : Nat} {o : Int32} (hr : F_323 B x0 = some o) : RnW scr 2 323 [.ref x0] B (.inl (some (.int o))) B :=
  x_methW (M := am_M323) rfl (show 1 ≤ 1 by decide) (f_323 (Nat.le_refl _) hr rfl)
abbrev P_326_22 (x2 : Nat) (x6 : Int32) (s : Int32 × Int32 × Wd) : ASt := (22, [some (.int s.1), none, some (.ref x2), none, none, some (.int s.2.1), some (.int x6)], [], (mk s.2.2), Wd.kc s.2.2, Wd.kn s.2.2)
abbrev PX_326_22 (x2 : Nat) (x6 : Int32) (s : Int32 × Int32 × Wd) : ASt := (72, [some (.int s.1), none, some (.ref x2), none, none, some (.int s.2.1), some (.int x6)], [], (mk s.2.2), Wd.kc s.2.2, Wd.kn s.2.2)
def G_326_22 (x2 : Nat) (x6 : Int32) (s : Int32 × Int32 × Wd) : Option ((Int32 × Int32 × Wd) ⊕ (Int32 × Int32 × Wd)) := 
  match s with
  | (x0, x5, B) =>
    if (-100) < x0 then
      some (.inr (x0, x5, B))
    else
      (B.aB (am_SB + 3) (((x0 / 100) * 100) - x0)).bind fun v4 =>
      (B.sB x2 (x5 + (-1)) v4).bind fun B6 =>
      (B6.aB (am_SB + 4) (((x0 / 100) * 100) - x0)).bind fun v8 =>
      (B6.sB x2 ((x5 + (-1)) + (-1)) v8).bind fun B10 =>
      some (.inl ((x0 / 100), ((x5 + (-1)) + (-1)), B10))
theorem g_326_22 {d : Nat} (hd : 1 ≤ d) {scr : ASc} {res : ARe} {x2 : Nat} {x6 : Int32} {s : Int32 × Int32 × Wd} {o : (Int32 × Int32 × Wd) ⊕ (Int32 × Int32 × Wd)} (hr : G_326_22 x2 x6 s = some o) (ka : ∀ s, o = .inl s → Ex d am_M326 scr (P_326_22 x2 x6 s) res) (kx : ∀ s, o = .inr s → Ex d am_M326 scr (PX_326_22 x2 x6 s) res) : Ex d am_M326 scr (P_326_22 x2 x6 s) res := by
  obtain ⟨x0, x5, B⟩ := s
  delta G_326_22 at hr
  show Ex d am_M326 scr (22, [some (.int x0), none, some (.ref x2), none, none, some (.int x5), some (.int x6)], [], (mk B), B.kc, B.kn) res
  refine x_b 2 (S2 := (25, [some (.int x0), none, some (.ref x2), none, none, some (.int x5), some (.int x6)], [.int (-100), .int x0], (mk B), B.kc, B.kn)) rfl ?_
  rcases ite_some hr with ⟨h3, hr⟩ | ⟨h3, hr⟩
  · refine x_ct rfl rfl (decide_eq_true h3) ?_
    refine x_fg (Lq.s (Lq.s (Lq.s (Lq.s (Lq.s (Lq.s (Lq.s Lq.nil))))))) ?_
    exact kx (x0, x5, B) (Option.some.inj hr).symm
  · refine x_cf rfl rfl (decide_eq_false h3) ?_
    refine x_b 2 (S2 := (31, [some (.int x0), none, some (.ref x2), none, none, some (.int x5), some (.int x6)], [.int 100, .int x0], (mk B), B.kc, B.kn)) rfl ?_
    refine x_div rfl rfl (by decide) ?_
    refine x_b 14 (S2 := (54, [some (.int (x0 / 100)), none, some (.ref x2), some (.int (x0 / 100)), some (.int (((x0 / 100) * 100) - x0)), some (.int (x5 + (-1))), some (.int x6)], [.int (((x0 / 100) * 100) - x0), .ref (am_SB + 3), .int (x5 + (-1)), .ref x2], (mk B), B.kc, B.kn)) rfl ?_
    obtain ⟨v4, h5, hr⟩ := bd_some hr
    refine x_aB rfl rfl h5 ?_
    obtain ⟨B6, h7, hr⟩ := bd_some hr
    refine x_sB rfl rfl h7 ?_
    refine x_b 5 (S2 := (67, [some (.int (x0 / 100)), none, some (.ref x2), some (.int (x0 / 100)), some (.int (((x0 / 100) * 100) - x0)), some (.int ((x5 + (-1)) + (-1))), some (.int x6)], [.int (((x0 / 100) * 100) - x0), .ref (am_SB + 4), .int ((x5 + (-1)) + (-1)), .ref x2], (mk B6), B6.kc, B6.kn)) rfl ?_
    obtain ⟨v8, h9, hr⟩ := bd_some hr
    refine x_aB rfl rfl h9 ?_
    obtain ⟨B10, h11, hr⟩ := bd_some hr
    refine x_sB rfl rfl h11 ?_
    refine x_b 1 (S2 := (22, [some (.int (x0 / 100)), none, some (.ref x2), some (.int (x0 / 100)), some (.int (((x0 / 100) * 100) - x0)), some (.int ((x5 + (-1)) + (-1))), some (.int x6)], [], (mk B10), B10.kc, B10.kn)) rfl ?_
    refine x_fg (Lq.s (Lq.s (Lq.s (Lq.n (Lq.n (Lq.s (Lq.s Lq.nil))))))) ?_
    exact ka ((x0 / 100), ((x5 + (-1)) + (-1)), B10) (Option.some.inj hr).symm
def J_326_0_j118 (B : Wd) (x5 : Int32) : Option (Int32 × Wd) :=
  some (x5, B)
theorem j_326_0_j118 {d : Nat} (hd : 1 ≤ d) {scr : ASc} {res : ARe} {B : Wd} {x5 : Int32} {o : Int32 × Wd} (hr : J_326_0_j118 B x5 = some o) (kr : res = (.inl (some (.int o.1)), mk o.2, Wd.kc o.2, Wd.kn o.2)) : Ex d am_M326 scr (118, [none, none, none, none, none, some (.int x5), none], [], (mk B), B.kc, B.kn) res := by
  delta J_326_0_j118 at hr
  refine x_b 1 (S2 := (120, [none, none, none, none, none, some (.int x5), none], [.int x5], (mk B), B.kc, B.kn)) rfl ?_
  cases hr
  rw [kr]
  exact x_ret rfl rfl am_ret_i
def J_326_0_j104 (B : Wd) (x2 : Nat) (x5 : Int32) (x6 : Int32) : Option (Int32 × Wd) :=
  if x6 = 0 then
    J_326_0_j118 B x5
  else
    (B.sB x2 (x5 + (-1)) 45).bind fun B23 =>
    J_326_0_j118 B23 (x5 + (-1))
theorem j_326_0_j104 {d : Nat} (hd : 1 ≤ d) {scr : ASc} {res : ARe} {B : Wd} {x2 : Nat} {x5 : Int32} {x6 : Int32} {o : Int32 × Wd} (hr : J_326_0_j104 B x2 x5 x6 = some o) (kr : res = (.inl (some (.int o.1)), mk o.2, Wd.kc o.2, Wd.kn o.2)) : Ex d am_M326 scr (104, [none, none, some (.ref x2), none, none, some (.int x5), some (.int x6)], [], (mk B), B.kc, B.kn) res := by
  delta J_326_0_j104 at hr
  refine x_b 1 (S2 := (106, [none, none, some (.ref x2), none, none, some (.int x5), some (.int x6)], [.int x6], (mk B), B.kc, B.kn)) rfl ?_
  rcases ite_some hr with ⟨h22, hr⟩ | ⟨h22, hr⟩
  · refine x_zt rfl rfl (decide_eq_true h22) ?_
    refine x_fg (Lq.s (Lq.s (Lq.n (Lq.s (Lq.s (Lq.s (Lq.n Lq.nil))))))) ?_
    exact j_326_0_j118 hd hr kr
  · refine x_zf rfl rfl (decide_eq_false h22) ?_
    refine x_b 4 (S2 := (117, [none, none, some (.ref x2), none, none, some (.int (x5 + (-1))), some (.int x6)], [.int 45, .int (x5 + (-1)), .ref x2], (mk B), B.kc, B.kn)) rfl ?_
    obtain ⟨B23, h24, hr⟩ := bd_some hr
    refine x_sB rfl rfl h24 ?_
    refine x_fg (Lq.s (Lq.s (Lq.n (Lq.s (Lq.s (Lq.s (Lq.n Lq.nil))))))) ?_
    exact j_326_0_j118 hd hr kr
def J_326_0_j12 (B : Wd) (x0 : Int32) (x2 : Nat) (x5 : Int32) (t0 : Int32) : Option (Int32 × Wd) :=
  if ¬ t0 = 0 then
    (lw (G_326_22 x2 t0) 200000 (x0, x5, B)).bind fun (v13, v14, B15) =>
    (B15.aB (am_SB + 3) (-v13)).bind fun v17 =>
    (B15.sB x2 (v14 + (-1)) v17).bind fun B19 =>
    if (-9) ≤ v13 then
      J_326_0_j104 B19 x2 (v14 + (-1)) t0
    else
      (B19.aB (am_SB + 4) (-v13)).bind fun v25 =>
      (B19.sB x2 ((v14 + (-1)) + (-1)) v25).bind fun B27 =>
      J_326_0_j104 B27 x2 ((v14 + (-1)) + (-1)) t0
  else
    (lw (G_326_22 x2 t0) 200000 ((-x0), x5, B)).bind fun (v30, v31, B32) =>
    (B32.aB (am_SB + 3) (-v30)).bind fun v34 =>
    (B32.sB x2 (v31 + (-1)) v34).bind fun B36 =>
    if (-9) ≤ v30 then
      J_326_0_j104 B36 x2 (v31 + (-1)) t0
    else
      (B36.aB (am_SB + 4) (-v30)).bind fun v39 =>
      (B36.sB x2 ((v31 + (-1)) + (-1)) v39).bind fun B41 =>
      J_326_0_j104 B41 x2 ((v31 + (-1)) + (-1)) t0
theorem j_326_0_j12 {d : Nat} (hd : 1 ≤ d) {scr : ASc} {res : ARe} {B : Wd} {x0 : Int32} {x2 : Nat} {x5 : Int32} {t0 : Int32} {o : Int32 × Wd} (hr : J_326_0_j12 B x0 x2 x5 t0 = some o) (kr : res = (.inl (some (.int o.1)), mk o.2, Wd.kc o.2, Wd.kn o.2)) : Ex d am_M326 scr (12, [some (.int x0), none, some (.ref x2), none, none, some (.int x5), none], [.int t0], (mk B), B.kc, B.kn) res := by
  delta J_326_0_j12 at hr
  refine x_b 2 (S2 := (16, [some (.int x0), none, some (.ref x2), none, none, some (.int x5), some (.int t0)], [.int t0], (mk B), B.kc, B.kn)) rfl ?_
  rcases ite_some hr with ⟨h2, hr⟩ | ⟨h2, hr⟩
  · refine x_zt rfl rfl (decide_eq_true h2) ?_
    refine x_fg (Lq.s (Lq.s (Lq.s (Lq.s (Lq.s (Lq.s (Lq.s Lq.nil))))))) ?_
    obtain ⟨o16, h12, hr⟩ := bd_some hr
    refine x_lw (P := P_326_22 x2 t0) (Q := fun x => Ex d am_M326 scr (PX_326_22 x2 t0 x) res) (fun s o h1 ka kx => g_326_22 hd h1 ka kx) _ (x0, x5, B) _ h12 ?_
    obtain ⟨v13, v14, B15⟩ := o16
    show Ex d am_M326 scr (72, [some (.int v13), none, some (.ref x2), none, none, some (.int v14), some (.int t0)], [], (mk B15), B15.kc, B15.kn) res
    refine x_b 6 (S2 := (83, [some (.int v13), none, some (.ref x2), none, none, some (.int (v14 + (-1))), some (.int t0)], [.int (-v13), .ref (am_SB + 3), .int (v14 + (-1)), .ref x2], (mk B15), B15.kc, B15.kn)) rfl ?_
    obtain ⟨v17, h18, hr⟩ := bd_some hr
    refine x_aB rfl rfl h18 ?_
    obtain ⟨B19, h20, hr⟩ := bd_some hr
    refine x_sB rfl rfl h20 ?_
    refine x_b 2 (S2 := (88, [some (.int v13), none, some (.ref x2), none, none, some (.int (v14 + (-1))), some (.int t0)], [.int (-9), .int v13], (mk B19), B19.kc, B19.kn)) rfl ?_
    rcases ite_some hr with ⟨h21, hr⟩ | ⟨h21, hr⟩
    · refine x_ct rfl rfl (decide_eq_true h21) ?_
      refine x_fg (Lq.n (Lq.s (Lq.s (Lq.s (Lq.s (Lq.s (Lq.s Lq.nil))))))) ?_
      exact j_326_0_j104 hd hr kr
    · refine x_cf rfl rfl (decide_eq_false h21) ?_
      refine x_b 6 (S2 := (102, [some (.int v13), none, some (.ref x2), none, none, some (.int ((v14 + (-1)) + (-1))), some (.int t0)], [.int (-v13), .ref (am_SB + 4), .int ((v14 + (-1)) + (-1)), .ref x2], (mk B19), B19.kc, B19.kn)) rfl ?_
      obtain ⟨v25, h26, hr⟩ := bd_some hr
      refine x_aB rfl rfl h26 ?_
      obtain ⟨B27, h28, hr⟩ := bd_some hr
      refine x_sB rfl rfl h28 ?_
      refine x_fg (Lq.n (Lq.s (Lq.s (Lq.s (Lq.s (Lq.s (Lq.s Lq.nil))))))) ?_
      exact j_326_0_j104 hd hr kr
  · refine x_zf rfl rfl (decide_eq_false h2) ?_
    refine x_b 3 (S2 := (22, [some (.int (-x0)), none, some (.ref x2), none, none, some (.int x5), some (.int t0)], [], (mk B), B.kc, B.kn)) rfl ?_
    refine x_fg (Lq.s (Lq.s (Lq.s (Lq.s (Lq.s (Lq.s (Lq.s Lq.nil))))))) ?_
    obtain ⟨o33, h29, hr⟩ := bd_some hr
    refine x_lw (P := P_326_22 x2 t0) (Q := fun x => Ex d am_M326 scr (PX_326_22 x2 t0 x) res) (fun s o h1 ka kx => g_326_22 hd h1 ka kx) _ ((-x0), x5, B) _ h29 ?_
    obtain ⟨v30, v31, B32⟩ := o33
    show Ex d am_M326 scr (72, [some (.int v30), none, some (.ref x2), none, none, some (.int v31), some (.int t0)], [], (mk B32), B32.kc, B32.kn) res
    refine x_b 6 (S2 := (83, [some (.int v30), none, some (.ref x2), none, none, some (.int (v31 + (-1))), some (.int t0)], [.int (-v30), .ref (am_SB + 3), .int (v31 + (-1)), .ref x2], (mk B32), B32.kc, B32.kn)) rfl ?_
    obtain ⟨v34, h35, hr⟩ := bd_some hr
    refine x_aB rfl rfl h35 ?_
    obtain ⟨B36, h37, hr⟩ := bd_some hr
    refine x_sB rfl rfl h37 ?_
    refine x_b 2 (S2 := (88, [some (.int v30), none, some (.ref x2), none, none, some (.int (v31 + (-1))), some (.int t0)], [.int (-9), .int v30], (mk B36), B36.kc, B36.kn)) rfl ?_
    rcases ite_some hr with ⟨h38, hr⟩ | ⟨h38, hr⟩
    · refine x_ct rfl rfl (decide_eq_true h38) ?_
      refine x_fg (Lq.n (Lq.s (Lq.s (Lq.s (Lq.s (Lq.s (Lq.s Lq.nil))))))) ?_
      exact j_326_0_j104 hd hr kr
    · refine x_cf rfl rfl (decide_eq_false h38) ?_
      refine x_b 6 (S2 := (102, [some (.int v30), none, some (.ref x2), none, none, some (.int ((v31 + (-1)) + (-1))), some (.int t0)], [.int (-v30), .ref (am_SB + 4), .int ((v31 + (-1)) + (-1)), .ref x2], (mk B36), B36.kc, B36.kn)) rfl ?_
      obtain ⟨v39, h40, hr⟩ := bd_some hr
      refine x_aB rfl rfl h40 ?_
      obtain ⟨B41, h42, hr⟩ := bd_some hr
      refine x_sB rfl rfl h42 ?_
      refine x_fg (Lq.n (Lq.s (Lq.s (Lq.s (Lq.s (Lq.s (Lq.s Lq.nil))))))) ?_
      exact j_326_0_j104 hd hr kr
/-- java/lang/Integer.getChars(II[B)I -/
def F_326 (B : Wd) (x0 : Int32) (x1 : Int32) (x2 : Nat) : Option (Int32 × Wd) :=
  if 0 ≤ x0 then
    J_326_0_j12 B x0 x2 x1 0
  else
    J_326_0_j12 B x0 x2 x1 1
theorem f_326 {d : Nat} (hd : 1 ≤ d) {scr : ASc} {res : ARe} {B : Wd} {x0 : Int32} {x1 : Int32} {x2 : Nat} {o : Int32 × Wd} (hr : F_326 B x0 x1 x2 = some o) (kr : res = (.inl (some (.int o.1)), mk o.2, Wd.kc o.2, Wd.kn o.2)) : Ex d am_M326 scr (0, [some (.int x0), some (.int x1), some (.ref x2), none, none, none, none], [], (mk B), B.kc, B.kn) res := by
  delta F_326 at hr
  refine x_b 3 (S2 := (4, [some (.int x0), some (.int x1), some (.ref x2), none, none, some (.int x1), none], [.int x0], (mk B), B.kc, B.kn)) rfl ?_
  rcases ite_some hr with ⟨h1, hr⟩ | ⟨h1, hr⟩
  · refine x_zt rfl rfl (decide_eq_true h1) ?_
    refine x_b 1 (S2 := (12, [some (.int x0), some (.int x1), some (.ref x2), none, none, some (.int x1), none], [.int 0], (mk B), B.kc, B.kn)) rfl ?_
    refine x_fg (Lq.s (Lq.n (Lq.s (Lq.s (Lq.s (Lq.s (Lq.s Lq.nil))))))) ?_
    exact j_326_0_j12 hd hr kr
  · refine x_zf rfl rfl (decide_eq_false h1) ?_
    refine x_b 2 (S2 := (12, [some (.int x0), some (.int x1), some (.ref x2), none, none, some (.int x1), none], [.int 1], (mk B), B.kc, B.kn)) rfl ?_
    refine x_fg (Lq.s (Lq.n (Lq.s (Lq.s (Lq.s (Lq.s (Lq.s Lq.nil))))))) ?_
    exact j_326_0_j12 hd hr kr
theorem m_326 {scr : ASc} {B : Wd} {x0 : Int32} {x1 : Int32} {x2 : Nat} {o : Int32 × Wd} (hr : F_326 B x0 x1 x2 = some o) : RnW scr 2 326 [.int x0, .int x1, .ref x2] B (.inl (some (.int o.1))) o.2 :=
  x_methW (M := am_M326) rfl (show 3 ≤ 7 by decide) (f_326 (Nat.le_refl _) hr rfl)
abbrev P_327_16 (B : Wd) (x0 : Int32) (x1 : Int32) (s : Int32 × Int32) : ASt := (16, [some (.int x0), some (.int x1), some (.int s.1), some (.int s.2)], [], (mk B), Wd.kc B, Wd.kn B)
abbrev PX_327_16 (B : Wd) (x0 : Int32) (x1 : Int32) (s : Unit) : ASt := (42, [none, some (.int x1), none, none], [], (mk B), Wd.kc B, Wd.kn B)
def G_327_16 (B : Wd) (x0 : Int32) (x1 : Int32) (s : Int32 × Int32) : Option ((Int32 × Int32) ⊕ (Unit) ⊕ (Int32)) := 
  match s with
  | (x2, x3) =>
    if 10 ≤ x3 then
      some (.inr (.inl ()))
    else
      if x0 ≤ x2 then
        some (.inl ((10 * x2), (x3 + 1)))
      else
        some (.inr (.inr (x3 + x1)))
theorem g_327_16 {d : Nat} (hd : 1 ≤ d) {scr : ASc} {res : ARe} {B : Wd} {x0 : Int32} {x1 : Int32} {s : Int32 × Int32} {o : (Int32 × Int32) ⊕ (Unit) ⊕ (Int32)} (hr : G_327_16 B x0 x1 s = some o) (ka : ∀ s, o = .inl s → Ex d am_M327 scr (P_327_16 B x0 x1 s) res) (kx : ∀ s, o = .inr (.inl s) → Ex d am_M327 scr (PX_327_16 B x0 x1 s) res) (kr : ∀ r, o = .inr (.inr r) → res = (.inl (some (.int r)), mk B, Wd.kc B, Wd.kn B)) : Ex d am_M327 scr (P_327_16 B x0 x1 s) res := by
  obtain ⟨x2, x3⟩ := s
  delta G_327_16 at hr
  show Ex d am_M327 scr (16, [some (.int x0), some (.int x1), some (.int x2), some (.int x3)], [], (mk B), B.kc, B.kn) res
  refine x_b 2 (S2 := (19, [some (.int x0), some (.int x1), some (.int x2), some (.int x3)], [.int 10, .int x3], (mk B), B.kc, B.kn)) rfl ?_
  rcases ite_some hr with ⟨h2, hr⟩ | ⟨h2, hr⟩
  · refine x_ct rfl rfl (decide_eq_true h2) ?_
    refine x_fg (Lq.n (Lq.s (Lq.n (Lq.n Lq.nil)))) ?_
    exact kx () (Option.some.inj hr).symm
  · refine x_cf rfl rfl (decide_eq_false h2) ?_
    refine x_b 2 (S2 := (24, [some (.int x0), some (.int x1), some (.int x2), some (.int x3)], [.int x2, .int x0], (mk B), B.kc, B.kn)) rfl ?_
    rcases ite_some hr with ⟨h3, hr⟩ | ⟨h3, hr⟩
    · refine x_ct rfl rfl (decide_eq_true h3) ?_
      refine x_b 6 (S2 := (16, [some (.int x0), some (.int x1), some (.int (10 * x2)), some (.int (x3 + 1))], [], (mk B), B.kc, B.kn)) rfl ?_
      refine x_fg (Lq.s (Lq.s (Lq.s (Lq.s Lq.nil)))) ?_
      exact ka ((10 * x2), (x3 + 1)) (Option.some.inj hr).symm
    · refine x_cf rfl rfl (decide_eq_false h3) ?_
      refine x_b 3 (S2 := (30, [some (.int x0), some (.int x1), some (.int x2), some (.int x3)], [.int (x3 + x1)], (mk B), B.kc, B.kn)) rfl ?_
      rw [kr _ (Option.some.inj hr).symm]
      exact x_ret rfl rfl am_ret_i
def J_327_0_j11 (B : Wd) (x0 : Int32) (x1 : Int32) : Option (Int32) :=
  (lw (G_327_16 B x0 x1) 200000 ((-10), 1)).bind fun r =>
    match r with
    | .inr r6 => some r6
    | .inl _ =>
      some (10 + x1)
theorem j_327_0_j11 {d : Nat} (hd : 1 ≤ d) {scr : ASc} {res : ARe} {B : Wd} {x0 : Int32} {x1 : Int32} {o : Int32} (hr : J_327_0_j11 B x0 x1 = some o) (kr : res = (.inl (some (.int o)), mk B, Wd.kc B, Wd.kn B)) : Ex d am_M327 scr (11, [some (.int x0), some (.int x1), none, none], [], (mk B), B.kc, B.kn) res := by
  delta J_327_0_j11 at hr
  refine x_b 4 (S2 := (16, [some (.int x0), some (.int x1), some (.int (-10)), some (.int 1)], [], (mk B), B.kc, B.kn)) rfl ?_
  refine x_fg (Lq.s (Lq.s (Lq.s (Lq.s Lq.nil)))) ?_
  obtain ⟨o5, h4, hr⟩ := bd_some hr
  refine x_lw (P := P_327_16 B x0 x1) (Q := fun x => match x with | .inl e => Ex d am_M327 scr (PX_327_16 B x0 x1 e) res | .inr r => res = (.inl (some (.int r)), mk B, Wd.kc B, Wd.kn B)) (fun s o h1 ka kx => g_327_16 hd h1 ka (fun e he => kx (.inl e) he) (fun r he => kx (.inr r) he)) _ ((-10), 1) _ h4 ?_
  rcases o5 with e | r6
  · show Ex d am_M327 scr (42, [none, some (.int x1), none, none], [], (mk B), B.kc, B.kn) res
    refine x_b 3 (S2 := (46, [none, some (.int x1), none, none], [.int (10 + x1)], (mk B), B.kc, B.kn)) rfl ?_
    cases hr
    rw [kr]
    exact x_ret rfl rfl am_ret_i
  · cases hr; exact kr
/-- java/lang/Integer.stringSize(I)I -/
def F_327 (B : Wd) (x0 : Int32) : Option (Int32) :=
  if x0 < 0 then
    J_327_0_j11 B x0 1
  else
    J_327_0_j11 B (-x0) 0
theorem f_327 {d : Nat} (hd : 1 ≤ d) {scr : ASc} {res : ARe} {B : Wd} {x0 : Int32} {o : Int32} (hr : F_327 B x0 = some o) (kr : res = (.inl (some (.int o)), mk B, Wd.kc B, Wd.kn B)) : Ex d am_M327 scr (0, [some (.int x0), none, none, none], [], (mk B), B.kc, B.kn) res := by
  delta F_327 at hr
  refine x_b 3 (S2 := (3, [some (.int x0), some (.int 1), none, none], [.int x0], (mk B), B.kc, B.kn)) rfl ?_
  rcases ite_some hr with ⟨h1, hr⟩ | ⟨h1, hr⟩
  · refine x_zt rfl rfl (decide_eq_true h1) ?_
    refine x_fg (Lq.s (Lq.s (Lq.s (Lq.s Lq.nil)))) ?_
    exact j_327_0_j11 hd hr kr
  · refine x_zf rfl rfl (decide_eq_false h1) ?_
    refine x_b 5 (S2 := (11, [some (.int (-x0)), some (.int 0), none, none], [], (mk B), B.kc, B.kn)) rfl ?_
    refine x_fg (Lq.s (Lq.s (Lq.s (Lq.s Lq.nil)))) ?_
    exact j_327_0_j11 hd hr kr
theorem m_327 {scr : ASc} {B : Wd} {x0 : Int32} {o : Int32} (hr : F_327 B x0 = some o) : RnW scr 2 327 [.int x0] B (.inl (some (.int o))) B :=
  x_methW (M := am_M327) rfl (show 1 ≤ 4 by decide) (f_327 (Nat.le_refl _) hr rfl)
/-- java/lang/AbstractStringBuilder.length()I -/
def F_403 (B : Wd) (x0 : Nat) : Option (Int32) :=
  (B.gI x0 9 3).bind fun v1 =>
  some v1
theorem f_403 {d : Nat} (hd : 1 ≤ d) {scr : ASc} {res : ARe} {B : Wd} {x0 : Nat} {o : Int32} (hr : F_403 B x0 = some o) (kr : res = (.inl (some (.int o)), mk B, Wd.kc B, Wd.kn B)) : Ex d am_M403 scr (0, [some (.ref x0)], [], (mk B), B.kc, B.kn) res := by
  delta F_403 at hr
  refine x_b 1 (S2 := (1, [some (.ref x0)], [.ref x0], (mk B), B.kc, B.kn)) rfl ?_
  obtain ⟨v1, h2, hr⟩ := bd_some hr
  refine x_gI rfl rfl h2 ?_
  cases hr
  rw [kr]
  exact x_ret rfl rfl am_ret_i
theorem m_403 {scr : ASc} {B : Wd} {x0 : Nat} {o : Int32} (hr : F_403 B x0 = some o) : RnW scr 2 403 [.ref x0] B (.inl (some (.int o))) B :=
  x_methW (M := am_M403) rfl (show 1 ≤ 1 by decide) (f_403 (Nat.le_refl _) hr rfl)
/-- java/lang/StringBuilder.length()I -/
def F_338 (B : Wd) (x0 : Nat) : Option (Int32) :=
  (B.rc x0 9).bind fun _ =>
  (F_403 B x0).bind fun v3 =>
  some v3
theorem f_338 {d : Nat} (hd : 2 ≤ d) {scr : ASc} {res : ARe} {B : Wd} {x0 : Nat} {o : Int32} (hr : F_338 B x0 = some o) (kr : res = (.inl (some (.int o)), mk B, Wd.kc B, Wd.kn B)) : Ex d am_M338 scr (0, [some (.ref x0)], [], (mk B), B.kc, B.kn) res := by
  delta F_338 at hr
  refine x_b 1 (S2 := (1, [some (.ref x0)], [.ref x0], (mk B), B.kc, B.kn)) rfl ?_
  obtain ⟨uh1, h1, hr⟩ := bd_some hr
  obtain ⟨v3, h2, hr⟩ := bd_some hr
  refine x_cW (m_403 h2) rfl rfl rfl rfl (am_recv_u h1 (by decide)) (by omega) ?_
  cases hr
  rw [kr]
  exact x_ret rfl rfl am_ret_i
theorem m_338 {scr : ASc} {B : Wd} {x0 : Nat} {o : Int32} (hr : F_338 B x0 = some o) : RnW scr 3 338 [.ref x0] B (.inl (some (.int o))) B :=
  x_methW (M := am_M338) rfl (show 1 ≤ 1 by decide) (f_338 (Nat.le_refl _) hr rfl)
/-- java/util/Arrays.checkLength(II)V -/
def F_360 (B : Wd) (x0 : Int32) (x1 : Int32) : Option (Unit) :=
  if x0 ≤ x1 then
    some ()
  else
    none
theorem f_360 {d : Nat} (hd : 1 ≤ d) {scr : ASc} {res : ARe} {B : Wd} {x0 : Int32} {x1 : Int32} {o : Unit} (hr : F_360 B x0 x1 = some o) (kr : res = (.inl none, mk B, Wd.kc B, Wd.kn B)) : Ex d am_M360 scr (0, [some (.int x0), some (.int x1)], [], (mk B), B.kc, B.kn) res := by
  delta F_360 at hr
  refine x_b 2 (S2 := (2, [some (.int x0), some (.int x1)], [.int x0, .int x1], (mk B), B.kc, B.kn)) rfl ?_
  rcases ite_some hr with ⟨h1, hr⟩ | ⟨h1, hr⟩
  · refine x_ct rfl rfl (decide_eq_true h1) ?_
    cases hr
    rw [kr]
    exact x_ret rfl rfl rfl
  · refine x_cf rfl rfl (decide_eq_false h1) ?_
    cases hr
theorem m_360 {scr : ASc} {B : Wd} {x0 : Int32} {x1 : Int32} {o : Unit} (hr : F_360 B x0 x1 = some o) : RnW scr 2 360 [.int x0, .int x1] B (.inl none) B :=
  x_methW (M := am_M360) rfl (show 2 ≤ 2 by decide) (f_360 (Nat.le_refl _) hr rfl)
/-- java/util/Arrays.copyOfRangeByte([BII)[B -/
def F_362 (B : Wd) (x0 : Nat) (x1 : Int32) (x2 : Int32) : Option (Nat × Wd) :=
  (F_360 B x1 x2).bind fun _ =>
  (B.nA 2 (x2 - x1)).bind fun (a2, B3) =>
  (B3.ln x0).bind fun v5 =>
  (B3.cp x0 x1 a2 0 (imn (v5 - x1) (x2 - x1))).bind fun B7 =>
  (if a2 < am_SB then some () else none).bind fun _ =>
  some (a2, B7)
theorem f_362 {d : Nat} (hd : 2 ≤ d) {scr : ASc} {res : ARe} {B : Wd} {x0 : Nat} {x1 : Int32} {x2 : Int32} {o : Nat × Wd} (hr : F_362 B x0 x1 x2 = some o) (kr : res = (.inl (some (.ref o.1)), mk o.2, Wd.kc o.2, Wd.kn o.2)) : Ex d am_M362 scr (0, [some (.ref x0), some (.int x1), some (.int x2), none, none], [], (mk B), B.kc, B.kn) res := by
  delta F_362 at hr
  refine x_b 2 (S2 := (2, [some (.ref x0), some (.int x1), some (.int x2), none, none], [.int x2, .int x1], (mk B), B.kc, B.kn)) rfl ?_
  obtain ⟨uh1, h1, hr⟩ := bd_some hr
  refine x_cW (m_360 h1) rfl rfl rfl rfl rfl (by omega) ?_
  refine x_b 5 (S2 := (10, [some (.ref x0), some (.int x1), some (.int x2), some (.int (x2 - x1)), none], [.int (x2 - x1)], (mk B), B.kc, B.kn)) rfl ?_
  obtain ⟨⟨a2, B3⟩, h4, hr⟩ := bd_some hr
  refine x_nA rfl rfl (.inr (.inr ⟨rfl, rfl⟩)) h4 ?_
  refine x_b 6 (S2 := (20, [some (.ref x0), some (.int x1), some (.int x2), some (.int (x2 - x1)), some (.ref a2)], [.ref x0, .int 0, .ref a2, .int x1, .ref x0], (mk B3), B3.kc, B3.kn)) rfl ?_
  obtain ⟨v5, h6, hr⟩ := bd_some hr
  refine x_ln rfl rfl h6 ?_
  refine x_b 4 (S2 := (27, [some (.ref x0), some (.int x1), some (.int x2), some (.int (x2 - x1)), some (.ref a2)], [.int (imn (v5 - x1) (x2 - x1)), .int 0, .ref a2, .int x1, .ref x0], (mk B3), B3.kc, B3.kn)) rfl ?_
  obtain ⟨B7, h8, hr⟩ := bd_some hr
  refine x_cp rfl rfl (Nat.le_of_ble_eq_true rfl) h8 ?_
  refine x_b 1 (S2 := (32, [some (.ref x0), some (.int x1), some (.int x2), some (.int (x2 - x1)), some (.ref a2)], [.ref a2], (mk B7), B7.kc, B7.kn)) rfl ?_
  obtain ⟨uh10, h10, hr⟩ := bd_some hr
  obtain ⟨h9, -⟩ := itn_some h10
  cases hr
  rw [kr]
  exact x_ret rfl rfl (am_ret_y h9)
theorem m_362 {scr : ASc} {B : Wd} {x0 : Nat} {x1 : Int32} {x2 : Int32} {o : Nat × Wd} (hr : F_362 B x0 x1 x2 = some o) : RnW scr 3 362 [.ref x0, .int x1, .int x2] B (.inl (some (.ref o.1))) o.2 :=
  x_methW (M := am_M362) rfl (show 3 ≤ 5 by decide) (f_362 (Nat.le_refl _) hr rfl)
def J_361_0_j10 (B : Wd) (x0 : Nat) (x1 : Int32) (x2 : Int32) : Option (Nat × Wd) :=
  (F_362 B x0 x1 x2).bind fun (a3, B4) =>
  (if a3 < am_SB then some () else none).bind fun _ =>
  some (a3, B4)
theorem j_361_0_j10 {d : Nat} (hd : 3 ≤ d) {scr : ASc} {res : ARe} {B : Wd} {x0 : Nat} {x1 : Int32} {x2 : Int32} {o : Nat × Wd} (hr : J_361_0_j10 B x0 x1 x2 = some o) (kr : res = (.inl (some (.ref o.1)), mk o.2, Wd.kc o.2, Wd.kn o.2)) : Ex d am_M361 scr (10, [some (.ref x0), some (.int x1), some (.int x2)], [], (mk B), B.kc, B.kn) res := by
  delta J_361_0_j10 at hr
  refine x_b 3 (S2 := (13, [some (.ref x0), some (.int x1), some (.int x2)], [.int x2, .int x1, .ref x0], (mk B), B.kc, B.kn)) rfl ?_
  obtain ⟨⟨a3, B4⟩, h2, hr⟩ := bd_some hr
  refine x_cW (m_362 h2) rfl rfl rfl rfl rfl (by omega) ?_
  obtain ⟨uh6, h6, hr⟩ := bd_some hr
  obtain ⟨h5, -⟩ := itn_some h6
  cases hr
  rw [kr]
  exact x_ret rfl rfl (am_ret_y h5)
/-- java/util/Arrays.copyOfRange([BII)[B -/
def F_361 (B : Wd) (x0 : Nat) (x1 : Int32) (x2 : Int32) : Option (Nat × Wd) :=
  if ¬ x1 = 0 then
    J_361_0_j10 B x0 x1 x2
  else
    (B.ln x0).bind fun v7 =>
    if x2 = v7 then
      (B.nC 2 x0).bind fun (a10, B11) =>
      (B11.ra a10 2).bind fun _ =>
      (if a10 < am_SB then some () else none).bind fun _ =>
      some (a10, B11)
    else
      J_361_0_j10 B x0 x1 x2
theorem f_361 {d : Nat} (hd : 3 ≤ d) {scr : ASc} {res : ARe} {B : Wd} {x0 : Nat} {x1 : Int32} {x2 : Int32} {o : Nat × Wd} (hr : F_361 B x0 x1 x2 = some o) (kr : res = (.inl (some (.ref o.1)), mk o.2, Wd.kc o.2, Wd.kn o.2)) : Ex d am_M361 scr (0, [some (.ref x0), some (.int x1), some (.int x2)], [], (mk B), B.kc, B.kn) res := by
  delta F_361 at hr
  refine x_b 1 (S2 := (1, [some (.ref x0), some (.int x1), some (.int x2)], [.int x1], (mk B), B.kc, B.kn)) rfl ?_
  rcases ite_some hr with ⟨h1, hr⟩ | ⟨h1, hr⟩
  · refine x_zt rfl rfl (decide_eq_true h1) ?_
    refine x_fg (Lq.s (Lq.s (Lq.s Lq.nil))) ?_
    exact j_361_0_j10 hd hr kr
  · refine x_zf rfl rfl (decide_eq_false h1) ?_
    refine x_b 2 (S2 := (6, [some (.ref x0), some (.int x1), some (.int x2)], [.ref x0, .int x2], (mk B), B.kc, B.kn)) rfl ?_
    obtain ⟨v7, h8, hr⟩ := bd_some hr
    refine x_ln rfl rfl h8 ?_
    rcases ite_some hr with ⟨h9, hr⟩ | ⟨h9, hr⟩
    · refine x_ct rfl rfl (decide_eq_true h9) ?_
      refine x_b 1 (S2 := (18, [some (.ref x0), some (.int x1), some (.int x2)], [.ref x0], (mk B), B.kc, B.kn)) rfl ?_
      obtain ⟨⟨a10, B11⟩, h12, hr⟩ := bd_some hr
      refine x_nC rfl rfl (Nat.le_of_ble_eq_true rfl) (.inr ⟨rfl, rfl⟩) h12 ?_
      obtain ⟨uh13, h13, hr⟩ := bd_some hr
      refine x_ckA (t := 2) rfl rfl h13 ?_
      obtain ⟨uh15, h15, hr⟩ := bd_some hr
      obtain ⟨h14, -⟩ := itn_some h15
      cases hr
      rw [kr]
      exact x_ret rfl rfl (am_ret_y h14)
    · refine x_cf rfl rfl (decide_eq_false h9) ?_
      refine x_fg (Lq.s (Lq.s (Lq.s Lq.nil))) ?_
      exact j_361_0_j10 hd hr kr
theorem m_361 {scr : ASc} {B : Wd} {x0 : Nat} {x1 : Int32} {x2 : Int32} {o : Nat × Wd} (hr : F_361 B x0 x1 x2 = some o) : RnW scr 4 361 [.ref x0, .int x1, .int x2] B (.inl (some (.ref o.1))) o.2 :=
  x_methW (M := am_M361) rfl (show 3 ≤ 3 by decide) (f_361 (Nat.le_refl _) hr rfl)
def J_330_0_j97 (B : Wd) : Option (Wd) :=
  some B
theorem j_330_0_j97 {d : Nat} (hd : 4 ≤ d) {scr : ASc} {res : ARe} {B : Wd} {o : Wd} (hr : J_330_0_j97 B = some o) (kr : res = (.inl none, mk o, Wd.kc o, Wd.kn o)) : Ex d am_M330 scr (97, [none, none, none, none, none], [], (mk B), B.kc, B.kn) res := by
  delta J_330_0_j97 at hr
  cases hr
  rw [kr]
  exact x_ret rfl rfl rfl
def J_330_0_j79 (B : Wd) (x0 : Nat) (x3 : Nat) (x4 : Int32) : Option (Wd) :=
  (B.pv x0 8 1 (.int 1)).bind fun B14 =>
  (F_361 B14 x3 0 (x4 <<< (1 &&& 31))).bind fun (a17, B18) =>
  (B18.pv x0 8 0 (.ref a17)).bind fun B19 =>
  J_330_0_j97 B19
theorem j_330_0_j79 {d : Nat} (hd : 4 ≤ d) {scr : ASc} {res : ARe} {B : Wd} {x0 : Nat} {x3 : Nat} {x4 : Int32} {o : Wd} (hr : J_330_0_j79 B x0 x3 x4 = some o) (kr : res = (.inl none, mk o, Wd.kc o, Wd.kn o)) : Ex d am_M330 scr (79, [some (.ref x0), none, none, some (.ref x3), some (.int x4)], [], (mk B), B.kc, B.kn) res := by
  delta J_330_0_j79 at hr
  refine x_b 2 (S2 := (81, [some (.ref x0), none, none, some (.ref x3), some (.int x4)], [.int 1, .ref x0], (mk B), B.kc, B.kn)) rfl ?_
  obtain ⟨B14, h15, hr⟩ := bd_some hr
  refine x_pv rfl rfl h15 ?_
  refine x_b 6 (S2 := (91, [some (.ref x0), none, none, some (.ref x3), some (.int x4)], [.int (x4 <<< (1 &&& 31)), .int 0, .ref x3, .ref x0], (mk B14), B14.kc, B14.kn)) rfl ?_
  obtain ⟨⟨a17, B18⟩, h16, hr⟩ := bd_some hr
  refine x_cW (m_361 h16) rfl rfl rfl rfl rfl (by omega) ?_
  obtain ⟨B19, h20, hr⟩ := bd_some hr
  refine x_pv rfl rfl h20 ?_
  refine x_fg (Lq.n (Lq.s (Lq.s (Lq.n (Lq.n Lq.nil))))) ?_
  exact j_330_0_j97 hd hr kr
/-- java/lang/String.<init>(Ljava/lang/AbstractStringBuilder;Ljava/lang/Void;)V -/
def F_330 (B : Wd) (x0 : Nat) (x1 : Nat) : Option (Wd) :=
  (if x0 < am_SB then some () else none).bind fun _ =>
  (B.rc x1 9).bind fun _ =>
  (F_322 B x1).bind fun v5 =>
  (B.rc x1 9).bind fun _ =>
  (F_338 B x1).bind fun v8 =>
  (B.rc x1 9).bind fun _ =>
  (F_323 B x1).bind fun v11 =>
  if v11 = 0 then
    if 1 = 0 then
      J_330_0_j79 B x0 v5 v8
    else
      (B.gI x1 9 2).bind fun v21 =>
      if v21 = 0 then
        J_330_0_j79 B x0 v5 v8
      else
        none
  else
    (B.pv x0 8 1 (.int 0)).bind fun B24 =>
    (F_361 B24 v5 0 v8).bind fun (a27, B28) =>
    (B28.pv x0 8 0 (.ref a27)).bind fun B29 =>
    J_330_0_j97 B29
theorem f_330 {d : Nat} (hd : 4 ≤ d) {scr : ASc} {res : ARe} {B : Wd} {x0 : Nat} {x1 : Nat} {o : Wd} (hr : F_330 B x0 x1 = some o) (kr : res = (.inl none, mk o, Wd.kc o, Wd.kn o)) : Ex d am_M330 scr (0, [some (.ref x0), some (.ref x1), some (.null), none, none], [], (mk B), B.kc, B.kn) res := by
  delta F_330 at hr
  refine x_b 1 (S2 := (1, [some (.ref x0), some (.ref x1), some (.null), none, none], [.ref x0], (mk B), B.kc, B.kn)) rfl ?_
  obtain ⟨uh2, h2, hr⟩ := bd_some hr
  obtain ⟨h1, -⟩ := itn_some h2
  refine x_obj rfl rfl h1 (Nat.le_of_ble_eq_true rfl) ?_
  refine x_b 1 (S2 := (5, [some (.ref x0), some (.ref x1), some (.null), none, none], [.ref x1], (mk B), B.kc, B.kn)) rfl ?_
  obtain ⟨uh3, h3, hr⟩ := bd_some hr
  obtain ⟨v5, h4, hr⟩ := bd_some hr
  refine x_cW (m_322 h4) rfl rfl rfl rfl (am_recv_c h3 (.inr ⟨rfl, rfl⟩)) (by omega) ?_
  refine x_b 2 (S2 := (10, [some (.ref x0), some (.ref x1), some (.null), some (.ref v5), none], [.ref x1], (mk B), B.kc, B.kn)) rfl ?_
  obtain ⟨uh6, h6, hr⟩ := bd_some hr
  obtain ⟨v8, h7, hr⟩ := bd_some hr
  refine x_cW (m_338 h7) rfl rfl rfl rfl (am_recv_c h6 (.inl rfl)) (by omega) ?_
  refine x_b 2 (S2 := (16, [some (.ref x0), some (.ref x1), some (.null), some (.ref v5), some (.int v8)], [.ref x1], (mk B), B.kc, B.kn)) rfl ?_
  obtain ⟨uh9, h9, hr⟩ := bd_some hr
  obtain ⟨v11, h10, hr⟩ := bd_some hr
  refine x_cW (m_323 h10) rfl rfl rfl rfl (am_recv_c h9 (.inr ⟨rfl, rfl⟩)) (by omega) ?_
  rcases ite_some hr with ⟨h12, hr⟩ | ⟨h12, hr⟩
  · refine x_zt rfl rfl (decide_eq_true h12) ?_
    refine x_b 1 (S2 := (44, [some (.ref x0), some (.ref x1), some (.null), some (.ref v5), some (.int v8)], [.int 1], (mk B), B.kc, B.kn)) rfl ?_
    rcases ite_some hr with ⟨h13, hr⟩ | ⟨h13, hr⟩
    · refine x_zt rfl rfl (decide_eq_true h13) ?_
      refine x_fg (Lq.s (Lq.n (Lq.n (Lq.s (Lq.s Lq.nil))))) ?_
      exact j_330_0_j79 hd hr kr
    · refine x_zf rfl rfl (decide_eq_false h13) ?_
      refine x_b 1 (S2 := (48, [some (.ref x0), some (.ref x1), some (.null), some (.ref v5), some (.int v8)], [.ref x1], (mk B), B.kc, B.kn)) rfl ?_
      obtain ⟨v21, h22, hr⟩ := bd_some hr
      refine x_gI rfl rfl h22 ?_
      rcases ite_some hr with ⟨h23, hr⟩ | ⟨h23, hr⟩
      · refine x_zt rfl rfl (decide_eq_true h23) ?_
        refine x_fg (Lq.s (Lq.n (Lq.n (Lq.s (Lq.s Lq.nil))))) ?_
        exact j_330_0_j79 hd hr kr
      · refine x_zf rfl rfl (decide_eq_false h23) ?_
        refine x_b 4 (S2 := (59, [some (.ref x0), some (.ref x1), some (.null), some (.ref v5), some (.int v8)], [.int v8, .int 0, .ref v5, .ref x0], (mk B), B.kc, B.kn)) rfl ?_
        cases hr
  · refine x_zf rfl rfl (decide_eq_false h12) ?_
    refine x_b 2 (S2 := (24, [some (.ref x0), some (.ref x1), some (.null), some (.ref v5), some (.int v8)], [.int 0, .ref x0], (mk B), B.kc, B.kn)) rfl ?_
    obtain ⟨B24, h25, hr⟩ := bd_some hr
    refine x_pv rfl rfl h25 ?_
    refine x_b 4 (S2 := (32, [some (.ref x0), some (.ref x1), some (.null), some (.ref v5), some (.int v8)], [.int v8, .int 0, .ref v5, .ref x0], (mk B24), B24.kc, B24.kn)) rfl ?_
    obtain ⟨⟨a27, B28⟩, h26, hr⟩ := bd_some hr
    refine x_cW (m_361 h26) rfl rfl rfl rfl rfl (by omega) ?_
    obtain ⟨B29, h30, hr⟩ := bd_some hr
    refine x_pv rfl rfl h30 ?_
    refine x_b 1 (S2 := (97, [some (.ref x0), some (.ref x1), some (.null), some (.ref v5), some (.int v8)], [], (mk B29), B29.kc, B29.kn)) rfl ?_
    refine x_fg (Lq.n (Lq.n (Lq.n (Lq.n (Lq.n Lq.nil))))) ?_
    exact j_330_0_j97 hd hr kr
theorem m_330 {scr : ASc} {B : Wd} {x0 : Nat} {x1 : Nat} {o : Wd} (hr : F_330 B x0 x1 = some o) : RnW scr 5 330 [.ref x0, .ref x1, .null] B (.inl none) o :=
  x_methW (M := am_M330) rfl (show 3 ≤ 5 by decide) (f_330 (Nat.le_refl _) hr rfl)
/-- java/lang/String.<init>(Ljava/lang/StringBuilder;)V -/
def F_328 (B : Wd) (x0 : Nat) (x1 : Nat) : Option (Wd) :=
  (if x0 < am_SB then some () else none).bind fun _ =>
  (F_330 B x0 x1).bind fun B4 =>
  some B4
theorem f_328 {d : Nat} (hd : 5 ≤ d) {scr : ASc} {res : ARe} {B : Wd} {x0 : Nat} {x1 : Nat} {o : Wd} (hr : F_328 B x0 x1 = some o) (kr : res = (.inl none, mk o, Wd.kc o, Wd.kn o)) : Ex d am_M328 scr (0, [some (.ref x0), some (.ref x1)], [], (mk B), B.kc, B.kn) res := by
  delta F_328 at hr
  refine x_b 3 (S2 := (3, [some (.ref x0), some (.ref x1)], [.null, .ref x1, .ref x0], (mk B), B.kc, B.kn)) rfl ?_
  obtain ⟨uh2, h2, hr⟩ := bd_some hr
  obtain ⟨h1, -⟩ := itn_some h2
  obtain ⟨B4, h3, hr⟩ := bd_some hr
  refine x_cW (m_330 h3) rfl rfl rfl rfl (am_recv_p h1 (by decide)) (by omega) ?_
  cases hr
  rw [kr]
  exact x_ret rfl rfl rfl
theorem m_328 {scr : ASc} {B : Wd} {x0 : Nat} {x1 : Nat} {o : Wd} (hr : F_328 B x0 x1 = some o) : RnW scr 6 328 [.ref x0, .ref x1] B (.inl none) o :=
  x_methW (M := am_M328) rfl (show 2 ≤ 2 by decide) (f_328 (Nat.le_refl _) hr rfl)
/-- java/lang/StringBuilder.<init>()V -/
def F_331 (B : Wd) (x0 : Nat) : Option (Wd) :=
  (if x0 < am_SB then some () else none).bind fun _ =>
  (F_318 B x0 16).bind fun B4 =>
  some B4
theorem f_331 {d : Nat} (hd : 2 ≤ d) {scr : ASc} {res : ARe} {B : Wd} {x0 : Nat} {o : Wd} (hr : F_331 B x0 = some o) (kr : res = (.inl none, mk o, Wd.kc o, Wd.kn o)) : Ex d am_M331 scr (0, [some (.ref x0)], [], (mk B), B.kc, B.kn) res := by
  delta F_331 at hr
  refine x_b 2 (S2 := (3, [some (.ref x0)], [.int 16, .ref x0], (mk B), B.kc, B.kn)) rfl ?_
  obtain ⟨uh2, h2, hr⟩ := bd_some hr
  obtain ⟨h1, -⟩ := itn_some h2
  obtain ⟨B4, h3, hr⟩ := bd_some hr
  refine x_cW (m_318 h3) rfl rfl rfl rfl (am_recv_p h1 (by decide)) (by omega) ?_
  cases hr
  rw [kr]
  exact x_ret rfl rfl rfl
theorem m_331 {scr : ASc} {B : Wd} {x0 : Nat} {o : Wd} (hr : F_331 B x0 = some o) : RnW scr 3 331 [.ref x0] B (.inl none) o :=
  x_methW (M := am_M331) rfl (show 1 ≤ 1 by decide) (f_331 (Nat.le_refl _) hr rfl)
/-- java/lang/StringBuilder.<init>(Ljava/lang/String;)V -/
def F_332 (B : Wd) (x0 : Nat) (x1 : Nat) : Option (Wd) :=
  (if x0 < am_SB then some () else none).bind fun _ =>
  (F_319 B x0 x1).bind fun B4 =>
  some B4
theorem f_332 {d : Nat} (hd : 8 ≤ d) {scr : ASc} {res : ARe} {B : Wd} {x0 : Nat} {x1 : Nat} {o : Wd} (hr : F_332 B x0 x1 = some o) (kr : res = (.inl none, mk o, Wd.kc o, Wd.kn o)) : Ex d am_M332 scr (0, [some (.ref x0), some (.ref x1)], [], (mk B), B.kc, B.kn) res := by
  delta F_332 at hr
  refine x_b 2 (S2 := (2, [some (.ref x0), some (.ref x1)], [.ref x1, .ref x0], (mk B), B.kc, B.kn)) rfl ?_
  obtain ⟨uh2, h2, hr⟩ := bd_some hr
  obtain ⟨h1, -⟩ := itn_some h2
  obtain ⟨B4, h3, hr⟩ := bd_some hr
  refine x_cW (m_319 h3) rfl rfl rfl rfl (am_recv_p h1 (by decide)) (by omega) ?_
  cases hr
  rw [kr]
  exact x_ret rfl rfl rfl
theorem m_332 {scr : ASc} {B : Wd} {x0 : Nat} {x1 : Nat} {o : Wd} (hr : F_332 B x0 x1 = some o) : RnW scr 9 332 [.ref x0, .ref x1] B (.inl none) o :=
  x_methW (M := am_M332) rfl (show 2 ≤ 2 by decide) (f_332 (Nat.le_refl _) hr rfl)
def J_339_0_j12 (B : Wd) (t0 : Int32) : Option (Int32) :=
  (if t0 = 0 ∨ t0 = 1 then some () else none).bind fun _ =>
  some t0
theorem j_339_0_j12 {d : Nat} (hd : 1 ≤ d) {scr : ASc} {res : ARe} {B : Wd} {t0 : Int32} {o : Int32} (hr : J_339_0_j12 B t0 = some o) (kr : res = (.inl (some (.int o)), mk B, Wd.kc B, Wd.kn B)) : Ex d am_M339 scr (12, [none], [.int t0], (mk B), B.kc, B.kn) res := by
  delta J_339_0_j12 at hr
  obtain ⟨uh3, h3, hr⟩ := bd_some hr
  obtain ⟨h2, -⟩ := itn_some h3
  cases hr
  rw [kr]
  exact x_ret rfl rfl (am_ret_z h2)
/-- java/lang/StringLatin1.canEncode(C)Z -/
def F_339 (B : Wd) (x0 : Int32) : Option (Int32) :=
  if 255 < x0 then
    J_339_0_j12 B 0
  else
    J_339_0_j12 B 1
theorem f_339 {d : Nat} (hd : 1 ≤ d) {scr : ASc} {res : ARe} {B : Wd} {x0 : Int32} {o : Int32} (hr : F_339 B x0 = some o) (kr : res = (.inl (some (.int o)), mk B, Wd.kc B, Wd.kn B)) : Ex d am_M339 scr (0, [some (.int x0)], [], (mk B), B.kc, B.kn) res := by
  delta F_339 at hr
  refine x_b 2 (S2 := (4, [some (.int x0)], [.int 255, .int x0], (mk B), B.kc, B.kn)) rfl ?_
  rcases ite_some hr with ⟨h1, hr⟩ | ⟨h1, hr⟩
  · refine x_ct rfl rfl (decide_eq_true h1) ?_
    refine x_b 1 (S2 := (12, [some (.int x0)], [.int 0], (mk B), B.kc, B.kn)) rfl ?_
    refine x_fg (Lq.n Lq.nil) ?_
    exact j_339_0_j12 hd hr kr
  · refine x_cf rfl rfl (decide_eq_false h1) ?_
    refine x_b 2 (S2 := (12, [some (.int x0)], [.int 1], (mk B), B.kc, B.kn)) rfl ?_
    refine x_fg (Lq.n Lq.nil) ?_
    exact j_339_0_j12 hd hr kr
theorem m_339 {scr : ASc} {B : Wd} {x0 : Int32} {o : Int32} (hr : F_339 B x0 = some o) : RnW scr 2 339 [.int x0] B (.inl (some (.int o))) B :=
  x_methW (M := am_M339) rfl (show 1 ≤ 1 by decide) (f_339 (Nat.le_refl _) hr rfl)
def J_401_0_j45 (B : Wd) (x0 : Nat) (x1 : Int32) : Option (Nat × Wd) :=
  (B.rc x0 9).bind fun _ =>
  (F_323 B x0).bind fun v12 =>
  if v12 = 0 then
    (B.gR x0 9 0).bind fun v14 =>
    (B.gI x0 9 3).bind fun v16 =>
    (B.pv x0 9 3 (.int (v16 + 1))).bind fun B18 =>
    none
  else
    none
theorem j_401_0_j45 {d : Nat} (hd : 4 ≤ d) {scr : ASc} {res : ARe} {B : Wd} {x0 : Nat} {x1 : Int32} {o : Nat × Wd} (hr : J_401_0_j45 B x0 x1 = some o) (kr : res = (.inl (some (.ref o.1)), mk o.2, Wd.kc o.2, Wd.kn o.2)) : Ex d am_M401 scr (45, [some (.ref x0), some (.int x1)], [], (mk B), B.kc, B.kn) res := by
  delta J_401_0_j45 at hr
  refine x_b 1 (S2 := (46, [some (.ref x0), some (.int x1)], [.ref x0], (mk B), B.kc, B.kn)) rfl ?_
  obtain ⟨uh10, h10, hr⟩ := bd_some hr
  obtain ⟨v12, h11, hr⟩ := bd_some hr
  refine x_cW (m_323 h11) rfl rfl rfl rfl (am_recv_c h10 (.inr ⟨rfl, rfl⟩)) (by omega) ?_
  rcases ite_some hr with ⟨h13, hr⟩ | ⟨h13, hr⟩
  · refine x_zt rfl rfl (decide_eq_true h13) ?_
    refine x_b 1 (S2 := (57, [some (.ref x0), some (.int x1)], [.ref x0], (mk B), B.kc, B.kn)) rfl ?_
    obtain ⟨v14, h15, hr⟩ := bd_some hr
    refine x_gR rfl rfl h15 ?_
    refine x_b 2 (S2 := (62, [some (.ref x0), some (.int x1)], [.ref x0, .ref x0, .ref v14], (mk B), B.kc, B.kn)) rfl ?_
    obtain ⟨v16, h17, hr⟩ := bd_some hr
    refine x_gI rfl rfl h17 ?_
    refine x_b 3 (S2 := (68, [some (.ref x0), some (.int x1)], [.int (v16 + 1), .ref x0, .int v16, .ref v14], (mk B), B.kc, B.kn)) rfl ?_
    obtain ⟨B18, h19, hr⟩ := bd_some hr
    refine x_pv rfl rfl h19 ?_
    refine x_b 1 (S2 := (72, [some (.ref x0), some (.int x1)], [.int x1, .int v16, .ref v14], (mk B18), B18.kc, B18.kn)) rfl ?_
    cases hr
  · refine x_zf rfl rfl (decide_eq_false h13) ?_
    refine x_b 1 (S2 := (53, [some (.ref x0), some (.int x1)], [.ref x0], (mk B), B.kc, B.kn)) rfl ?_
    cases hr
/-- java/lang/AbstractStringBuilder.append(C)Ljava/lang/AbstractStringBuilder; -/
def F_401 (B : Wd) (x0 : Nat) (x1 : Int32) : Option (Nat × Wd) :=
  (B.gI x0 9 3).bind fun v1 =>
  (B.rc x0 9).bind fun _ =>
  (F_320 B x0 (v1 + 1)).bind fun B5 =>
  (B5.rc x0 9).bind fun _ =>
  (F_323 B5 x0).bind fun v8 =>
  if v8 = 0 then
    J_401_0_j45 B5 x0 x1
  else
    (F_339 B5 x1).bind fun v21 =>
    if v21 = 0 then
      J_401_0_j45 B5 x0 x1
    else
      (B5.gR x0 9 0).bind fun v23 =>
      (B5.gI x0 9 3).bind fun v25 =>
      (B5.pv x0 9 3 (.int (v25 + 1))).bind fun B27 =>
      (B27.sB v23 v25 x1.toInt8.toInt32).bind fun B29 =>
      (if x0 < am_SB then some () else none).bind fun _ =>
      some (x0, B29)
theorem f_401 {d : Nat} (hd : 4 ≤ d) {scr : ASc} {res : ARe} {B : Wd} {x0 : Nat} {x1 : Int32} {o : Nat × Wd} (hr : F_401 B x0 x1 = some o) (kr : res = (.inl (some (.ref o.1)), mk o.2, Wd.kc o.2, Wd.kn o.2)) : Ex d am_M401 scr (0, [some (.ref x0), some (.int x1)], [], (mk B), B.kc, B.kn) res := by
  delta F_401 at hr
  refine x_b 2 (S2 := (2, [some (.ref x0), some (.int x1)], [.ref x0, .ref x0], (mk B), B.kc, B.kn)) rfl ?_
  obtain ⟨v1, h2, hr⟩ := bd_some hr
  refine x_gI rfl rfl h2 ?_
  refine x_b 2 (S2 := (7, [some (.ref x0), some (.int x1)], [.int (v1 + 1), .ref x0], (mk B), B.kc, B.kn)) rfl ?_
  obtain ⟨uh3, h3, hr⟩ := bd_some hr
  obtain ⟨B5, h4, hr⟩ := bd_some hr
  refine x_cW (m_320 h4) rfl rfl rfl rfl (am_recv_c h3 (.inr ⟨rfl, rfl⟩)) (by omega) ?_
  refine x_b 1 (S2 := (11, [some (.ref x0), some (.int x1)], [.ref x0], (mk B5), B5.kc, B5.kn)) rfl ?_
  obtain ⟨uh6, h6, hr⟩ := bd_some hr
  obtain ⟨v8, h7, hr⟩ := bd_some hr
  refine x_cW (m_323 h7) rfl rfl rfl rfl (am_recv_c h6 (.inr ⟨rfl, rfl⟩)) (by omega) ?_
  rcases ite_some hr with ⟨h9, hr⟩ | ⟨h9, hr⟩
  · refine x_zt rfl rfl (decide_eq_true h9) ?_
    refine x_fg (Lq.s (Lq.s Lq.nil)) ?_
    exact j_401_0_j45 hd hr kr
  · refine x_zf rfl rfl (decide_eq_false h9) ?_
    refine x_b 1 (S2 := (18, [some (.ref x0), some (.int x1)], [.int x1], (mk B5), B5.kc, B5.kn)) rfl ?_
    obtain ⟨v21, h20, hr⟩ := bd_some hr
    refine x_cW (m_339 h20) rfl rfl rfl rfl rfl (by omega) ?_
    rcases ite_some hr with ⟨h22, hr⟩ | ⟨h22, hr⟩
    · refine x_zt rfl rfl (decide_eq_true h22) ?_
      refine x_fg (Lq.s (Lq.s Lq.nil)) ?_
      exact j_401_0_j45 hd hr kr
    · refine x_zf rfl rfl (decide_eq_false h22) ?_
      refine x_b 1 (S2 := (25, [some (.ref x0), some (.int x1)], [.ref x0], (mk B5), B5.kc, B5.kn)) rfl ?_
      obtain ⟨v23, h24, hr⟩ := bd_some hr
      refine x_gR rfl rfl h24 ?_
      refine x_b 2 (S2 := (30, [some (.ref x0), some (.int x1)], [.ref x0, .ref x0, .ref v23], (mk B5), B5.kc, B5.kn)) rfl ?_
      obtain ⟨v25, h26, hr⟩ := bd_some hr
      refine x_gI rfl rfl h26 ?_
      refine x_b 3 (S2 := (36, [some (.ref x0), some (.int x1)], [.int (v25 + 1), .ref x0, .int v25, .ref v23], (mk B5), B5.kc, B5.kn)) rfl ?_
      obtain ⟨B27, h28, hr⟩ := bd_some hr
      refine x_pv rfl rfl h28 ?_
      refine x_b 2 (S2 := (41, [some (.ref x0), some (.int x1)], [.int x1.toInt8.toInt32, .int v25, .ref v23], (mk B27), B27.kc, B27.kn)) rfl ?_
      obtain ⟨B29, h30, hr⟩ := bd_some hr
      refine x_sB rfl rfl h30 ?_
      refine x_b 2 (S2 := (76, [some (.ref x0), some (.int x1)], [.ref x0], (mk B29), B29.kc, B29.kn)) rfl ?_
      obtain ⟨uh32, h32, hr⟩ := bd_some hr
      obtain ⟨h31, -⟩ := itn_some h32
      cases hr
      rw [kr]
      exact x_ret rfl rfl (am_ret_h h31)
theorem m_401 {scr : ASc} {B : Wd} {x0 : Nat} {x1 : Int32} {o : Nat × Wd} (hr : F_401 B x0 x1 = some o) : RnW scr 5 401 [.ref x0, .int x1] B (.inl (some (.ref o.1))) o.2 :=
  x_methW (M := am_M401) rfl (show 2 ≤ 2 by decide) (f_401 (Nat.le_refl _) hr rfl)
/-- java/lang/StringBuilder.append(C)Ljava/lang/StringBuilder; -/
def F_334 (B : Wd) (x0 : Nat) (x1 : Int32) : Option (Nat × Wd) :=
  (B.rc x0 9).bind fun _ =>
  (F_401 B x0 x1).bind fun (a3, B4) =>
  (if x0 < am_SB then some () else none).bind fun _ =>
  some (x0, B4)
theorem f_334 {d : Nat} (hd : 5 ≤ d) {scr : ASc} {res : ARe} {B : Wd} {x0 : Nat} {x1 : Int32} {o : Nat × Wd} (hr : F_334 B x0 x1 = some o) (kr : res = (.inl (some (.ref o.1)), mk o.2, Wd.kc o.2, Wd.kn o.2)) : Ex d am_M334 scr (0, [some (.ref x0), some (.int x1)], [], (mk B), B.kc, B.kn) res := by
  delta F_334 at hr
  refine x_b 2 (S2 := (2, [some (.ref x0), some (.int x1)], [.int x1, .ref x0], (mk B), B.kc, B.kn)) rfl ?_
  obtain ⟨uh1, h1, hr⟩ := bd_some hr
  obtain ⟨⟨a3, B4⟩, h2, hr⟩ := bd_some hr
  refine x_cW (m_401 h2) rfl rfl rfl rfl (am_recv_u h1 (by decide)) (by omega) ?_
  refine x_b 2 (S2 := (7, [some (.ref x0), some (.int x1)], [.ref x0], (mk B4), B4.kc, B4.kn)) rfl ?_
  obtain ⟨uh6, h6, hr⟩ := bd_some hr
  obtain ⟨h5, -⟩ := itn_some h6
  cases hr
  rw [kr]
  exact x_ret rfl rfl (am_ret_h h5)
theorem m_334 {scr : ASc} {B : Wd} {x0 : Nat} {x1 : Int32} {o : Nat × Wd} (hr : F_334 B x0 x1 = some o) : RnW scr 6 334 [.ref x0, .int x1] B (.inl (some (.ref o.1))) o.2 :=
  x_methW (M := am_M334) rfl (show 2 ≤ 2 by decide) (f_334 (Nat.le_refl _) hr rfl)
/-- java/lang/AbstractStringBuilder.append(I)Ljava/lang/AbstractStringBuilder; -/
def F_402 (B : Wd) (x0 : Nat) (x1 : Int32) : Option (Nat × Wd) :=
  (B.gI x0 9 3).bind fun v1 =>
  (F_327 B x1).bind fun v4 =>
  (B.rc x0 9).bind fun _ =>
  (F_320 B x0 (v1 + v4)).bind fun B7 =>
  (B7.rc x0 9).bind fun _ =>
  (F_323 B7 x0).bind fun v10 =>
  if v10 = 0 then
    (B7.gR x0 9 0).bind fun v12 =>
    none
  else
    (B7.gR x0 9 0).bind fun v14 =>
    (F_326 B7 x1 (v1 + v4) v14).bind fun (v17, B18) =>
    (B18.pv x0 9 3 (.int (v1 + v4))).bind fun B19 =>
    (if x0 < am_SB then some () else none).bind fun _ =>
    some (x0, B19)
theorem f_402 {d : Nat} (hd : 4 ≤ d) {scr : ASc} {res : ARe} {B : Wd} {x0 : Nat} {x1 : Int32} {o : Nat × Wd} (hr : F_402 B x0 x1 = some o) (kr : res = (.inl (some (.ref o.1)), mk o.2, Wd.kc o.2, Wd.kn o.2)) : Ex d am_M402 scr (0, [some (.ref x0), some (.int x1), none, none], [], (mk B), B.kc, B.kn) res := by
  delta F_402 at hr
  refine x_b 1 (S2 := (1, [some (.ref x0), some (.int x1), none, none], [.ref x0], (mk B), B.kc, B.kn)) rfl ?_
  obtain ⟨v1, h2, hr⟩ := bd_some hr
  refine x_gI rfl rfl h2 ?_
  refine x_b 3 (S2 := (7, [some (.ref x0), some (.int x1), some (.int v1), none], [.int x1, .int v1], (mk B), B.kc, B.kn)) rfl ?_
  obtain ⟨v4, h3, hr⟩ := bd_some hr
  refine x_cW (m_327 h3) rfl rfl rfl rfl rfl (by omega) ?_
  refine x_b 4 (S2 := (14, [some (.ref x0), some (.int x1), some (.int v1), some (.int (v1 + v4))], [.int (v1 + v4), .ref x0], (mk B), B.kc, B.kn)) rfl ?_
  obtain ⟨uh5, h5, hr⟩ := bd_some hr
  obtain ⟨B7, h6, hr⟩ := bd_some hr
  refine x_cW (m_320 h6) rfl rfl rfl rfl (am_recv_c h5 (.inr ⟨rfl, rfl⟩)) (by omega) ?_
  refine x_b 1 (S2 := (18, [some (.ref x0), some (.int x1), some (.int v1), some (.int (v1 + v4))], [.ref x0], (mk B7), B7.kc, B7.kn)) rfl ?_
  obtain ⟨uh8, h8, hr⟩ := bd_some hr
  obtain ⟨v10, h9, hr⟩ := bd_some hr
  refine x_cW (m_323 h9) rfl rfl rfl rfl (am_recv_c h8 (.inr ⟨rfl, rfl⟩)) (by omega) ?_
  rcases ite_some hr with ⟨h11, hr⟩ | ⟨h11, hr⟩
  · refine x_zt rfl rfl (decide_eq_true h11) ?_
    refine x_b 4 (S2 := (41, [some (.ref x0), some (.int x1), some (.int v1), some (.int (v1 + v4))], [.ref x0, .int (v1 + v4), .int v1, .int x1], (mk B7), B7.kc, B7.kn)) rfl ?_
    obtain ⟨v12, h13, hr⟩ := bd_some hr
    refine x_gR rfl rfl h13 ?_
    cases hr
  · refine x_zf rfl rfl (decide_eq_false h11) ?_
    refine x_b 3 (S2 := (27, [some (.ref x0), some (.int x1), some (.int v1), some (.int (v1 + v4))], [.ref x0, .int (v1 + v4), .int x1], (mk B7), B7.kc, B7.kn)) rfl ?_
    obtain ⟨v14, h15, hr⟩ := bd_some hr
    refine x_gR rfl rfl h15 ?_
    obtain ⟨⟨v17, B18⟩, h16, hr⟩ := bd_some hr
    refine x_cW (m_326 h16) rfl rfl rfl rfl rfl (by omega) ?_
    refine x_b 4 (S2 := (50, [some (.ref x0), some (.int x1), some (.int v1), some (.int (v1 + v4))], [.int (v1 + v4), .ref x0], (mk B18), B18.kc, B18.kn)) rfl ?_
    obtain ⟨B19, h20, hr⟩ := bd_some hr
    refine x_pv rfl rfl h20 ?_
    refine x_b 1 (S2 := (54, [some (.ref x0), some (.int x1), some (.int v1), some (.int (v1 + v4))], [.ref x0], (mk B19), B19.kc, B19.kn)) rfl ?_
    obtain ⟨uh22, h22, hr⟩ := bd_some hr
    obtain ⟨h21, -⟩ := itn_some h22
    cases hr
    rw [kr]
    exact x_ret rfl rfl (am_ret_h h21)
theorem m_402 {scr : ASc} {B : Wd} {x0 : Nat} {x1 : Int32} {o : Nat × Wd} (hr : F_402 B x0 x1 = some o) : RnW scr 5 402 [.ref x0, .int x1] B (.inl (some (.ref o.1))) o.2 :=
  x_methW (M := am_M402) rfl (show 2 ≤ 4 by decide) (f_402 (Nat.le_refl _) hr rfl)
/-- java/lang/StringBuilder.append(I)Ljava/lang/StringBuilder; -/
def F_335 (B : Wd) (x0 : Nat) (x1 : Int32) : Option (Nat × Wd) :=
  (B.rc x0 9).bind fun _ =>
  (F_402 B x0 x1).bind fun (a3, B4) =>
  (if x0 < am_SB then some () else none).bind fun _ =>
  some (x0, B4)
theorem f_335 {d : Nat} (hd : 5 ≤ d) {scr : ASc} {res : ARe} {B : Wd} {x0 : Nat} {x1 : Int32} {o : Nat × Wd} (hr : F_335 B x0 x1 = some o) (kr : res = (.inl (some (.ref o.1)), mk o.2, Wd.kc o.2, Wd.kn o.2)) : Ex d am_M335 scr (0, [some (.ref x0), some (.int x1)], [], (mk B), B.kc, B.kn) res := by
  delta F_335 at hr
  refine x_b 2 (S2 := (2, [some (.ref x0), some (.int x1)], [.int x1, .ref x0], (mk B), B.kc, B.kn)) rfl ?_
  obtain ⟨uh1, h1, hr⟩ := bd_some hr
  obtain ⟨⟨a3, B4⟩, h2, hr⟩ := bd_some hr
  refine x_cW (m_402 h2) rfl rfl rfl rfl (am_recv_u h1 (by decide)) (by omega) ?_
  refine x_b 2 (S2 := (7, [some (.ref x0), some (.int x1)], [.ref x0], (mk B4), B4.kc, B4.kn)) rfl ?_
  obtain ⟨uh6, h6, hr⟩ := bd_some hr
  obtain ⟨h5, -⟩ := itn_some h6
  cases hr
  rw [kr]
  exact x_ret rfl rfl (am_ret_h h5)
theorem m_335 {scr : ASc} {B : Wd} {x0 : Nat} {x1 : Int32} {o : Nat × Wd} (hr : F_335 B x0 x1 = some o) : RnW scr 6 335 [.ref x0, .int x1] B (.inl (some (.ref o.1))) o.2 :=
  x_methW (M := am_M335) rfl (show 2 ≤ 2 by decide) (f_335 (Nat.le_refl _) hr rfl)
/-- java/lang/StringBuilder.toString()Ljava/lang/String; -/
def F_336 (B : Wd) (x0 : Nat) : Option (Nat × Wd) :=
  (B.nO 8).bind fun (a1, B2) =>
  (if a1 < am_SB then some () else none).bind fun _ =>
  (F_328 B2 a1 x0).bind fun B7 =>
  (if a1 < am_SB then some () else none).bind fun _ =>
  some (a1, B7)
theorem f_336 {d : Nat} (hd : 6 ≤ d) {scr : ASc} {res : ARe} {B : Wd} {x0 : Nat} {o : Nat × Wd} (hr : F_336 B x0 = some o) (kr : res = (.inl (some (.ref o.1)), mk o.2, Wd.kc o.2, Wd.kn o.2)) : Ex d am_M336 scr (0, [some (.ref x0)], [], (mk B), B.kc, B.kn) res := by
  delta F_336 at hr
  obtain ⟨⟨a1, B2⟩, h3, hr⟩ := bd_some hr
  refine x_nO rfl rfl h3 ?_
  refine x_b 2 (S2 := (5, [some (.ref x0)], [.ref x0, .ref a1, .ref a1], (mk B2), B2.kc, B2.kn)) rfl ?_
  obtain ⟨uh5, h5, hr⟩ := bd_some hr
  obtain ⟨h4, -⟩ := itn_some h5
  obtain ⟨B7, h6, hr⟩ := bd_some hr
  refine x_cW (m_328 h6) rfl rfl rfl rfl (am_recv_p h4 (by decide)) (by omega) ?_
  obtain ⟨uh9, h9, hr⟩ := bd_some hr
  obtain ⟨h8, -⟩ := itn_some h9
  cases hr
  rw [kr]
  exact x_ret rfl rfl (am_ret_h h8)
theorem m_336 {scr : ASc} {B : Wd} {x0 : Nat} {o : Nat × Wd} (hr : F_336 B x0 = some o) : RnW scr 7 336 [.ref x0] B (.inl (some (.ref o.1))) o.2 :=
  x_methW (M := am_M336) rfl (show 1 ≤ 1 by decide) (f_336 (Nat.le_refl _) hr rfl)
/-- java/util/AbstractCollection.<init>()V -/
def F_340 (B : Wd) (x0 : Nat) : Option (Unit) :=
  (if x0 < am_SB then some () else none).bind fun _ =>
  some ()
theorem f_340 {d : Nat} (hd : 1 ≤ d) {scr : ASc} {res : ARe} {B : Wd} {x0 : Nat} {o : Unit} (hr : F_340 B x0 = some o) (kr : res = (.inl none, mk B, Wd.kc B, Wd.kn B)) : Ex d am_M340 scr (0, [some (.ref x0)], [], (mk B), B.kc, B.kn) res := by
  delta F_340 at hr
  refine x_b 1 (S2 := (1, [some (.ref x0)], [.ref x0], (mk B), B.kc, B.kn)) rfl ?_
  obtain ⟨uh2, h2, hr⟩ := bd_some hr
  obtain ⟨h1, -⟩ := itn_some h2
  refine x_obj rfl rfl h1 (Nat.le_of_ble_eq_true rfl) ?_
  cases hr
  rw [kr]
  exact x_ret rfl rfl rfl
theorem m_340 {scr : ASc} {B : Wd} {x0 : Nat} {o : Unit} (hr : F_340 B x0 = some o) : RnW scr 2 340 [.ref x0] B (.inl none) B :=
  x_methW (M := am_M340) rfl (show 1 ≤ 1 by decide) (f_340 (Nat.le_refl _) hr rfl)
/-- java/util/AbstractList.<init>()V -/
def F_341 (B : Wd) (x0 : Nat) : Option (Wd) :=
  (if x0 < am_SB then some () else none).bind fun _ =>
  (F_340 B x0).bind fun _ =>
  (B.pv x0 10 0 (.int 0)).bind fun B4 =>
  some B4
theorem f_341 {d : Nat} (hd : 2 ≤ d) {scr : ASc} {res : ARe} {B : Wd} {x0 : Nat} {o : Wd} (hr : F_341 B x0 = some o) (kr : res = (.inl none, mk o, Wd.kc o, Wd.kn o)) : Ex d am_M341 scr (0, [some (.ref x0)], [], (mk B), B.kc, B.kn) res := by
  delta F_341 at hr
  refine x_b 1 (S2 := (1, [some (.ref x0)], [.ref x0], (mk B), B.kc, B.kn)) rfl ?_
  obtain ⟨uh2, h2, hr⟩ := bd_some hr
  obtain ⟨h1, -⟩ := itn_some h2
  obtain ⟨uh3, h3, hr⟩ := bd_some hr
  refine x_cW (m_340 h3) rfl rfl rfl rfl (am_recv_p h1 (by decide)) (by omega) ?_
  refine x_b 2 (S2 := (6, [some (.ref x0)], [.int 0, .ref x0], (mk B), B.kc, B.kn)) rfl ?_
  obtain ⟨B4, h5, hr⟩ := bd_some hr
  refine x_pv rfl rfl h5 ?_
  cases hr
  rw [kr]
  exact x_ret rfl rfl rfl
theorem m_341 {scr : ASc} {B : Wd} {x0 : Nat} {o : Wd} (hr : F_341 B x0 = some o) : RnW scr 3 341 [.ref x0] B (.inl none) o :=
  x_methW (M := am_M341) rfl (show 1 ≤ 1 by decide) (f_341 (Nat.le_refl _) hr rfl)
/-- java/util/ArrayList$Itr.<init>(Ljava/util/ArrayList;)V -/
def F_342 (B : Wd) (x0 : Nat) (x1 : Nat) : Option (Wd) :=
  (B.pv x0 11 3 (.ref x1)).bind fun B1 =>
  (if x0 < am_SB then some () else none).bind fun _ =>
  (B1.pv x0 11 1 (.int (-1))).bind fun B5 =>
  (B5.gR x0 11 3).bind fun v7 =>
  (B5.gI v7 10 0).bind fun v9 =>
  (B5.pv x0 11 2 (.int v9)).bind fun B11 =>
  some B11
theorem f_342 {d : Nat} (hd : 1 ≤ d) {scr : ASc} {res : ARe} {B : Wd} {x0 : Nat} {x1 : Nat} {o : Wd} (hr : F_342 B x0 x1 = some o) (kr : res = (.inl none, mk o, Wd.kc o, Wd.kn o)) : Ex d am_M342 scr (0, [some (.ref x0), some (.ref x1)], [], (mk B), B.kc, B.kn) res := by
  delta F_342 at hr
  refine x_b 2 (S2 := (2, [some (.ref x0), some (.ref x1)], [.ref x1, .ref x0], (mk B), B.kc, B.kn)) rfl ?_
  obtain ⟨B1, h2, hr⟩ := bd_some hr
  refine x_pv rfl rfl h2 ?_
  refine x_b 1 (S2 := (6, [some (.ref x0), some (.ref x1)], [.ref x0], (mk B1), B1.kc, B1.kn)) rfl ?_
  obtain ⟨uh4, h4, hr⟩ := bd_some hr
  obtain ⟨h3, -⟩ := itn_some h4
  refine x_obj rfl rfl h3 (Nat.le_of_ble_eq_true rfl) ?_
  refine x_b 2 (S2 := (11, [some (.ref x0), some (.ref x1)], [.int (-1), .ref x0], (mk B1), B1.kc, B1.kn)) rfl ?_
  obtain ⟨B5, h6, hr⟩ := bd_some hr
  refine x_pv rfl rfl h6 ?_
  refine x_b 2 (S2 := (16, [some (.ref x0), some (.ref x1)], [.ref x0, .ref x0], (mk B5), B5.kc, B5.kn)) rfl ?_
  obtain ⟨v7, h8, hr⟩ := bd_some hr
  refine x_gR rfl rfl h8 ?_
  obtain ⟨v9, h10, hr⟩ := bd_some hr
  refine x_gI rfl rfl h10 ?_
  obtain ⟨B11, h12, hr⟩ := bd_some hr
  refine x_pv rfl rfl h12 ?_
  cases hr
  rw [kr]
  exact x_ret rfl rfl rfl
theorem m_342 {scr : ASc} {B : Wd} {x0 : Nat} {x1 : Nat} {o : Wd} (hr : F_342 B x0 x1 = some o) : RnW scr 2 342 [.ref x0, .ref x1] B (.inl none) o :=
  x_methW (M := am_M342) rfl (show 2 ≤ 2 by decide) (f_342 (Nat.le_refl _) hr rfl)
def J_343_0_j19 (B : Wd) (t0 : Int32) : Option (Int32) :=
  (if t0 = 0 ∨ t0 = 1 then some () else none).bind fun _ =>
  some t0
theorem j_343_0_j19 {d : Nat} (hd : 1 ≤ d) {scr : ASc} {res : ARe} {B : Wd} {t0 : Int32} {o : Int32} (hr : J_343_0_j19 B t0 = some o) (kr : res = (.inl (some (.int o)), mk B, Wd.kc B, Wd.kn B)) : Ex d am_M343 scr (19, [none], [.int t0], (mk B), B.kc, B.kn) res := by
  delta J_343_0_j19 at hr
  obtain ⟨uh9, h9, hr⟩ := bd_some hr
  obtain ⟨h8, -⟩ := itn_some h9
  cases hr
  rw [kr]
  exact x_ret rfl rfl (am_ret_z h8)
/-- java/util/ArrayList$Itr.hasNext()Z -/
def F_343 (B : Wd) (x0 : Nat) : Option (Int32) :=
  (B.gI x0 11 0).bind fun v1 =>
  (B.gR x0 11 3).bind fun v3 =>
  (B.gI v3 10 2).bind fun v5 =>
  if v1 = v5 then
    J_343_0_j19 B 0
  else
    J_343_0_j19 B 1
theorem f_343 {d : Nat} (hd : 1 ≤ d) {scr : ASc} {res : ARe} {B : Wd} {x0 : Nat} {o : Int32} (hr : F_343 B x0 = some o) (kr : res = (.inl (some (.int o)), mk B, Wd.kc B, Wd.kn B)) : Ex d am_M343 scr (0, [some (.ref x0)], [], (mk B), B.kc, B.kn) res := by
  delta F_343 at hr
  refine x_b 1 (S2 := (1, [some (.ref x0)], [.ref x0], (mk B), B.kc, B.kn)) rfl ?_
  obtain ⟨v1, h2, hr⟩ := bd_some hr
  refine x_gI rfl rfl h2 ?_
  refine x_b 1 (S2 := (5, [some (.ref x0)], [.ref x0, .int v1], (mk B), B.kc, B.kn)) rfl ?_
  obtain ⟨v3, h4, hr⟩ := bd_some hr
  refine x_gR rfl rfl h4 ?_
  obtain ⟨v5, h6, hr⟩ := bd_some hr
  refine x_gI rfl rfl h6 ?_
  rcases ite_some hr with ⟨h7, hr⟩ | ⟨h7, hr⟩
  · refine x_ct rfl rfl (decide_eq_true h7) ?_
    refine x_b 1 (S2 := (19, [some (.ref x0)], [.int 0], (mk B), B.kc, B.kn)) rfl ?_
    refine x_fg (Lq.n Lq.nil) ?_
    exact j_343_0_j19 hd hr kr
  · refine x_cf rfl rfl (decide_eq_false h7) ?_
    refine x_b 2 (S2 := (19, [some (.ref x0)], [.int 1], (mk B), B.kc, B.kn)) rfl ?_
    refine x_fg (Lq.n Lq.nil) ?_
    exact j_343_0_j19 hd hr kr
theorem m_343 {scr : ASc} {B : Wd} {x0 : Nat} {o : Int32} (hr : F_343 B x0 = some o) : RnW scr 2 343 [.ref x0] B (.inl (some (.int o))) B :=
  x_methW (M := am_M343) rfl (show 1 ≤ 1 by decide) (f_343 (Nat.le_refl _) hr rfl)
/-- java/util/ArrayList$Itr.checkForComodification()V -/
def F_345 (B : Wd) (x0 : Nat) : Option (Unit) :=
  (B.gR x0 11 3).bind fun v1 =>
  (B.gI v1 10 0).bind fun v3 =>
  (B.gI x0 11 2).bind fun v5 =>
  if v3 = v5 then
    some ()
  else
    none
theorem f_345 {d : Nat} (hd : 1 ≤ d) {scr : ASc} {res : ARe} {B : Wd} {x0 : Nat} {o : Unit} (hr : F_345 B x0 = some o) (kr : res = (.inl none, mk B, Wd.kc B, Wd.kn B)) : Ex d am_M345 scr (0, [some (.ref x0)], [], (mk B), B.kc, B.kn) res := by
  delta F_345 at hr
  refine x_b 1 (S2 := (1, [some (.ref x0)], [.ref x0], (mk B), B.kc, B.kn)) rfl ?_
  obtain ⟨v1, h2, hr⟩ := bd_some hr
  refine x_gR rfl rfl h2 ?_
  obtain ⟨v3, h4, hr⟩ := bd_some hr
  refine x_gI rfl rfl h4 ?_
  refine x_b 1 (S2 := (8, [some (.ref x0)], [.ref x0, .int v3], (mk B), B.kc, B.kn)) rfl ?_
  obtain ⟨v5, h6, hr⟩ := bd_some hr
  refine x_gI rfl rfl h6 ?_
  rcases ite_some hr with ⟨h7, hr⟩ | ⟨h7, hr⟩
  · refine x_ct rfl rfl (decide_eq_true h7) ?_
    cases hr
    rw [kr]
    exact x_ret rfl rfl rfl
  · refine x_cf rfl rfl (decide_eq_false h7) ?_
    cases hr
theorem m_345 {scr : ASc} {B : Wd} {x0 : Nat} {o : Unit} (hr : F_345 B x0 = some o) : RnW scr 2 345 [.ref x0] B (.inl none) B :=
  x_methW (M := am_M345) rfl (show 1 ≤ 1 by decide) (f_345 (Nat.le_refl _) hr rfl)
/-- java/util/ArrayList$Itr.next()Ljava/lang/Object; -/
def F_344 (B : Wd) (x0 : Nat) : Option (Nat × Wd) :=
  (B.rc x0 11).bind fun _ =>
  (F_345 B x0).bind fun _ =>
  (B.gI x0 11 0).bind fun v3 =>
  (B.gR x0 11 3).bind fun v5 =>
  (B.gI v5 10 2).bind fun v7 =>
  if v3 < v7 then
    (B.gR x0 11 3).bind fun v10 =>
    (B.gR v10 10 1).bind fun v12 =>
    (B.ln v12).bind fun v14 =>
    if v3 < v14 then
      (B.pv x0 11 0 (.int (v3 + 1))).bind fun B17 =>
      (B17.pv x0 11 1 (.int v3)).bind fun B19 =>
      (B19.aR v12 v3).bind fun v21 =>
      (if v21 < am_SB then some () else none).bind fun _ =>
      some (v21, B19)
    else
      none
  else
    none
theorem f_344 {d : Nat} (hd : 2 ≤ d) {scr : ASc} {res : ARe} {B : Wd} {x0 : Nat} {o : Nat × Wd} (hr : F_344 B x0 = some o) (kr : res = (.inl (some (.ref o.1)), mk o.2, Wd.kc o.2, Wd.kn o.2)) : Ex d am_M344 scr (0, [some (.ref x0), none, none], [], (mk B), B.kc, B.kn) res := by
  delta F_344 at hr
  refine x_b 1 (S2 := (1, [some (.ref x0), none, none], [.ref x0], (mk B), B.kc, B.kn)) rfl ?_
  obtain ⟨uh1, h1, hr⟩ := bd_some hr
  obtain ⟨uh2, h2, hr⟩ := bd_some hr
  refine x_cW (m_345 h2) rfl rfl rfl rfl (am_recv_c h1 (.inl rfl)) (by omega) ?_
  refine x_b 1 (S2 := (5, [some (.ref x0), none, none], [.ref x0], (mk B), B.kc, B.kn)) rfl ?_
  obtain ⟨v3, h4, hr⟩ := bd_some hr
  refine x_gI rfl rfl h4 ?_
  refine x_b 3 (S2 := (11, [some (.ref x0), some (.int v3), none], [.ref x0, .int v3], (mk B), B.kc, B.kn)) rfl ?_
  obtain ⟨v5, h6, hr⟩ := bd_some hr
  refine x_gR rfl rfl h6 ?_
  obtain ⟨v7, h8, hr⟩ := bd_some hr
  refine x_gI rfl rfl h8 ?_
  rcases ite_some hr with ⟨h9, hr⟩ | ⟨h9, hr⟩
  · refine x_ct rfl rfl (decide_eq_true h9) ?_
    refine x_b 1 (S2 := (29, [some (.ref x0), some (.int v3), none], [.ref x0], (mk B), B.kc, B.kn)) rfl ?_
    obtain ⟨v10, h11, hr⟩ := bd_some hr
    refine x_gR rfl rfl h11 ?_
    obtain ⟨v12, h13, hr⟩ := bd_some hr
    refine x_gR rfl rfl h13 ?_
    refine x_b 3 (S2 := (38, [some (.ref x0), some (.int v3), some (.ref v12)], [.ref v12, .int v3], (mk B), B.kc, B.kn)) rfl ?_
    obtain ⟨v14, h15, hr⟩ := bd_some hr
    refine x_ln rfl rfl h15 ?_
    rcases ite_some hr with ⟨h16, hr⟩ | ⟨h16, hr⟩
    · refine x_ct rfl rfl (decide_eq_true h16) ?_
      refine x_b 4 (S2 := (54, [some (.ref x0), some (.int v3), some (.ref v12)], [.int (v3 + 1), .ref x0], (mk B), B.kc, B.kn)) rfl ?_
      obtain ⟨B17, h18, hr⟩ := bd_some hr
      refine x_pv rfl rfl h18 ?_
      refine x_b 4 (S2 := (61, [some (.ref x0), some (.int v3), some (.ref v12)], [.int v3, .ref x0, .int v3, .ref v12], (mk B17), B17.kc, B17.kn)) rfl ?_
      obtain ⟨B19, h20, hr⟩ := bd_some hr
      refine x_pv rfl rfl h20 ?_
      obtain ⟨v21, h22, hr⟩ := bd_some hr
      refine x_aR rfl rfl h22 ?_
      obtain ⟨uh24, h24, hr⟩ := bd_some hr
      obtain ⟨h23, -⟩ := itn_some h24
      cases hr
      rw [kr]
      exact x_ret rfl rfl (am_ret_h h23)
    · refine x_cf rfl rfl (decide_eq_false h16) ?_
      cases hr
  · refine x_cf rfl rfl (decide_eq_false h9) ?_
    cases hr
theorem m_344 {scr : ASc} {B : Wd} {x0 : Nat} {o : Nat × Wd} (hr : F_344 B x0 = some o) : RnW scr 3 344 [.ref x0] B (.inl (some (.ref o.1))) o.2 :=
  x_methW (M := am_M344) rfl (show 1 ≤ 3 by decide) (f_344 (Nat.le_refl _) hr rfl)
/-- java/util/ArrayList.<init>()V -/
def F_346 (B : Wd) (x0 : Nat) : Option (Wd) :=
  (if x0 < am_SB then some () else none).bind fun _ =>
  (F_341 B x0).bind fun B4 =>
  (B4.pv x0 10 1 (.ref (am_SB + 2))).bind fun B5 =>
  some B5
theorem f_346 {d : Nat} (hd : 3 ≤ d) {scr : ASc} {res : ARe} {B : Wd} {x0 : Nat} {o : Wd} (hr : F_346 B x0 = some o) (kr : res = (.inl none, mk o, Wd.kc o, Wd.kn o)) : Ex d am_M346 scr (0, [some (.ref x0)], [], (mk B), B.kc, B.kn) res := by
  delta F_346 at hr
  refine x_b 1 (S2 := (1, [some (.ref x0)], [.ref x0], (mk B), B.kc, B.kn)) rfl ?_
  obtain ⟨uh2, h2, hr⟩ := bd_some hr
  obtain ⟨h1, -⟩ := itn_some h2
  obtain ⟨B4, h3, hr⟩ := bd_some hr
  refine x_cW (m_341 h3) rfl rfl rfl rfl (am_recv_p h1 (by decide)) (by omega) ?_
  refine x_b 2 (S2 := (8, [some (.ref x0)], [.ref (am_SB + 2), .ref x0], (mk B4), B4.kc, B4.kn)) rfl ?_
  obtain ⟨B5, h6, hr⟩ := bd_some hr
  refine x_pv rfl rfl h6 ?_
  cases hr
  rw [kr]
  exact x_ret rfl rfl rfl
theorem m_346 {scr : ASc} {B : Wd} {x0 : Nat} {o : Wd} (hr : F_346 B x0 = some o) : RnW scr 4 346 [.ref x0] B (.inl none) o :=
  x_methW (M := am_M346) rfl (show 1 ≤ 1 by decide) (f_346 (Nat.le_refl _) hr rfl)
/-- java/util/ArrayList.grow(I)[Ljava/lang/Object; -/
def F_347 (B : Wd) (x0 : Nat) (x1 : Int32) : Option (Nat × Wd) :=
  (B.gR x0 10 1).bind fun v1 =>
  (B.ln v1).bind fun v3 =>
  if 0 < v3 then
    (F_364 B v3 (x1 - v3) (v3 >>> (1 &&& 31))).bind fun v7 =>
    (B.gR x0 10 1).bind fun v8 =>
    none
  else
    (B.gR x0 10 1).bind fun v10 =>
    (if v10 = (am_SB + 2) ∧ ¬ v10 = am_SB + 1 then some () else none).bind fun _ =>
    (B.nQ 5 (imx 10 x1)).bind fun (a14, B15) =>
    (B15.pv x0 10 1 (.ref a14)).bind fun B17 =>
    (if a14 < am_SB then some () else none).bind fun _ =>
    some (a14, B17)
theorem f_347 {d : Nat} (hd : 2 ≤ d) {scr : ASc} {res : ARe} {B : Wd} {x0 : Nat} {x1 : Int32} {o : Nat × Wd} (hr : F_347 B x0 x1 = some o) (kr : res = (.inl (some (.ref o.1)), mk o.2, Wd.kc o.2, Wd.kn o.2)) : Ex d am_M347 scr (0, [some (.ref x0), some (.int x1), none, none], [], (mk B), B.kc, B.kn) res := by
  delta F_347 at hr
  refine x_b 1 (S2 := (1, [some (.ref x0), some (.int x1), none, none], [.ref x0], (mk B), B.kc, B.kn)) rfl ?_
  obtain ⟨v1, h2, hr⟩ := bd_some hr
  refine x_gR rfl rfl h2 ?_
  obtain ⟨v3, h4, hr⟩ := bd_some hr
  refine x_ln rfl rfl h4 ?_
  refine x_b 2 (S2 := (7, [some (.ref x0), some (.int x1), some (.int v3), none], [.int v3], (mk B), B.kc, B.kn)) rfl ?_
  rcases ite_some hr with ⟨h5, hr⟩ | ⟨h5, hr⟩
  · refine x_zt rfl rfl (decide_eq_true h5) ?_
    refine x_b 7 (S2 := (27, [some (.ref x0), some (.int x1), some (.int v3), none], [.int (v3 >>> (1 &&& 31)), .int (x1 - v3), .int v3], (mk B), B.kc, B.kn)) rfl ?_
    obtain ⟨v7, h6, hr⟩ := bd_some hr
    refine x_cW (m_364 h6) rfl rfl rfl rfl rfl (by omega) ?_
    refine x_b 3 (S2 := (33, [some (.ref x0), some (.int x1), some (.int v3), some (.int v7)], [.ref x0, .ref x0], (mk B), B.kc, B.kn)) rfl ?_
    obtain ⟨v8, h9, hr⟩ := bd_some hr
    refine x_gR rfl rfl h9 ?_
    refine x_b 1 (S2 := (37, [some (.ref x0), some (.int x1), some (.int v3), some (.int v7)], [.int v7, .ref v8, .ref x0], (mk B), B.kc, B.kn)) rfl ?_
    cases hr
  · refine x_zf rfl rfl (decide_eq_false h5) ?_
    refine x_b 1 (S2 := (11, [some (.ref x0), some (.int x1), some (.int v3), none], [.ref x0], (mk B), B.kc, B.kn)) rfl ?_
    obtain ⟨v10, h11, hr⟩ := bd_some hr
    refine x_gR rfl rfl h11 ?_
    refine x_b 1 (S2 := (17, [some (.ref x0), some (.int x1), some (.int v3), none], [.ref (am_SB + 2), .ref v10], (mk B), B.kc, B.kn)) rfl ?_
    obtain ⟨uh13, h13, hr⟩ := bd_some hr
    obtain ⟨h12, -⟩ := itn_some h13
    refine x_acqq rfl rfl h12 ?_
    refine x_b 4 (S2 := (52, [some (.ref x0), some (.int x1), some (.int v3), none], [.int (imx 10 x1), .ref x0], (mk B), B.kc, B.kn)) rfl ?_
    obtain ⟨⟨a14, B15⟩, h16, hr⟩ := bd_some hr
    refine x_nQ rfl rfl (by decide) h16 ?_
    refine x_b 1 (S2 := (56, [some (.ref x0), some (.int x1), some (.int v3), none], [.ref a14, .ref x0, .ref a14], (mk B15), B15.kc, B15.kn)) rfl ?_
    obtain ⟨B17, h18, hr⟩ := bd_some hr
    refine x_pv rfl rfl h18 ?_
    obtain ⟨uh20, h20, hr⟩ := bd_some hr
    obtain ⟨h19, -⟩ := itn_some h20
    cases hr
    rw [kr]
    exact x_ret rfl rfl (am_ret_y h19)
theorem m_347 {scr : ASc} {B : Wd} {x0 : Nat} {x1 : Int32} {o : Nat × Wd} (hr : F_347 B x0 x1 = some o) : RnW scr 3 347 [.ref x0, .int x1] B (.inl (some (.ref o.1))) o.2 :=
  x_methW (M := am_M347) rfl (show 2 ≤ 4 by decide) (f_347 (Nat.le_refl _) hr rfl)
/-- java/util/ArrayList.grow()[Ljava/lang/Object; -/
def F_348 (B : Wd) (x0 : Nat) : Option (Nat × Wd) :=
  (B.gI x0 10 2).bind fun v1 =>
  (B.rc x0 10).bind fun _ =>
  (F_347 B x0 (v1 + 1)).bind fun (a5, B6) =>
  (if a5 < am_SB then some () else none).bind fun _ =>
  some (a5, B6)
theorem f_348 {d : Nat} (hd : 3 ≤ d) {scr : ASc} {res : ARe} {B : Wd} {x0 : Nat} {o : Nat × Wd} (hr : F_348 B x0 = some o) (kr : res = (.inl (some (.ref o.1)), mk o.2, Wd.kc o.2, Wd.kn o.2)) : Ex d am_M348 scr (0, [some (.ref x0)], [], (mk B), B.kc, B.kn) res := by
  delta F_348 at hr
  refine x_b 2 (S2 := (2, [some (.ref x0)], [.ref x0, .ref x0], (mk B), B.kc, B.kn)) rfl ?_
  obtain ⟨v1, h2, hr⟩ := bd_some hr
  refine x_gI rfl rfl h2 ?_
  refine x_b 2 (S2 := (7, [some (.ref x0)], [.int (v1 + 1), .ref x0], (mk B), B.kc, B.kn)) rfl ?_
  obtain ⟨uh3, h3, hr⟩ := bd_some hr
  obtain ⟨⟨a5, B6⟩, h4, hr⟩ := bd_some hr
  refine x_cW (m_347 h4) rfl rfl rfl rfl (am_recv_c h3 (.inl rfl)) (by omega) ?_
  obtain ⟨uh8, h8, hr⟩ := bd_some hr
  obtain ⟨h7, -⟩ := itn_some h8
  cases hr
  rw [kr]
  exact x_ret rfl rfl (am_ret_y h7)
theorem m_348 {scr : ASc} {B : Wd} {x0 : Nat} {o : Nat × Wd} (hr : F_348 B x0 = some o) : RnW scr 4 348 [.ref x0] B (.inl (some (.ref o.1))) o.2 :=
  x_methW (M := am_M348) rfl (show 1 ≤ 1 by decide) (f_348 (Nat.le_refl _) hr rfl)
/-- java/util/ArrayList.size()I -/
def F_349 (B : Wd) (x0 : Nat) : Option (Int32) :=
  (B.gI x0 10 2).bind fun v1 =>
  some v1
theorem f_349 {d : Nat} (hd : 1 ≤ d) {scr : ASc} {res : ARe} {B : Wd} {x0 : Nat} {o : Int32} (hr : F_349 B x0 = some o) (kr : res = (.inl (some (.int o)), mk B, Wd.kc B, Wd.kn B)) : Ex d am_M349 scr (0, [some (.ref x0)], [], (mk B), B.kc, B.kn) res := by
  delta F_349 at hr
  refine x_b 1 (S2 := (1, [some (.ref x0)], [.ref x0], (mk B), B.kc, B.kn)) rfl ?_
  obtain ⟨v1, h2, hr⟩ := bd_some hr
  refine x_gI rfl rfl h2 ?_
  cases hr
  rw [kr]
  exact x_ret rfl rfl am_ret_i
theorem m_349 {scr : ASc} {B : Wd} {x0 : Nat} {o : Int32} (hr : F_349 B x0 = some o) : RnW scr 2 349 [.ref x0] B (.inl (some (.int o))) B :=
  x_methW (M := am_M349) rfl (show 1 ≤ 1 by decide) (f_349 (Nat.le_refl _) hr rfl)
def J_350_0_j12 (B : Wd) (t0 : Int32) : Option (Int32) :=
  (if t0 = 0 ∨ t0 = 1 then some () else none).bind fun _ =>
  some t0
theorem j_350_0_j12 {d : Nat} (hd : 1 ≤ d) {scr : ASc} {res : ARe} {B : Wd} {t0 : Int32} {o : Int32} (hr : J_350_0_j12 B t0 = some o) (kr : res = (.inl (some (.int o)), mk B, Wd.kc B, Wd.kn B)) : Ex d am_M350 scr (12, [none], [.int t0], (mk B), B.kc, B.kn) res := by
  delta J_350_0_j12 at hr
  obtain ⟨uh5, h5, hr⟩ := bd_some hr
  obtain ⟨h4, -⟩ := itn_some h5
  cases hr
  rw [kr]
  exact x_ret rfl rfl (am_ret_z h4)
/-- java/util/ArrayList.isEmpty()Z -/
def F_350 (B : Wd) (x0 : Nat) : Option (Int32) :=
  (B.gI x0 10 2).bind fun v1 =>
  if ¬ v1 = 0 then
    J_350_0_j12 B 0
  else
    J_350_0_j12 B 1
theorem f_350 {d : Nat} (hd : 1 ≤ d) {scr : ASc} {res : ARe} {B : Wd} {x0 : Nat} {o : Int32} (hr : F_350 B x0 = some o) (kr : res = (.inl (some (.int o)), mk B, Wd.kc B, Wd.kn B)) : Ex d am_M350 scr (0, [some (.ref x0)], [], (mk B), B.kc, B.kn) res := by
  delta F_350 at hr
  refine x_b 1 (S2 := (1, [some (.ref x0)], [.ref x0], (mk B), B.kc, B.kn)) rfl ?_
  obtain ⟨v1, h2, hr⟩ := bd_some hr
  refine x_gI rfl rfl h2 ?_
  rcases ite_some hr with ⟨h3, hr⟩ | ⟨h3, hr⟩
  · refine x_zt rfl rfl (decide_eq_true h3) ?_
    refine x_b 1 (S2 := (12, [some (.ref x0)], [.int 0], (mk B), B.kc, B.kn)) rfl ?_
    refine x_fg (Lq.n Lq.nil) ?_
    exact j_350_0_j12 hd hr kr
  · refine x_zf rfl rfl (decide_eq_false h3) ?_
    refine x_b 2 (S2 := (12, [some (.ref x0)], [.int 1], (mk B), B.kc, B.kn)) rfl ?_
    refine x_fg (Lq.n Lq.nil) ?_
    exact j_350_0_j12 hd hr kr
theorem m_350 {scr : ASc} {B : Wd} {x0 : Nat} {o : Int32} (hr : F_350 B x0 = some o) : RnW scr 2 350 [.ref x0] B (.inl (some (.int o))) B :=
  x_methW (M := am_M350) rfl (show 1 ≤ 1 by decide) (f_350 (Nat.le_refl _) hr rfl)
/-- java/util/ArrayList.elementData(I)Ljava/lang/Object; -/
def F_351 (B : Wd) (x0 : Nat) (x1 : Int32) : Option (Nat) :=
  (B.gR x0 10 1).bind fun v1 =>
  (B.aR v1 x1).bind fun v3 =>
  (if v3 < am_SB then some () else none).bind fun _ =>
  some v3
theorem f_351 {d : Nat} (hd : 1 ≤ d) {scr : ASc} {res : ARe} {B : Wd} {x0 : Nat} {x1 : Int32} {o : Nat} (hr : F_351 B x0 x1 = some o) (kr : res = (.inl (some (.ref o)), mk B, Wd.kc B, Wd.kn B)) : Ex d am_M351 scr (0, [some (.ref x0), some (.int x1)], [], (mk B), B.kc, B.kn) res := by
  delta F_351 at hr
  refine x_b 1 (S2 := (1, [some (.ref x0), some (.int x1)], [.ref x0], (mk B), B.kc, B.kn)) rfl ?_
  obtain ⟨v1, h2, hr⟩ := bd_some hr
  refine x_gR rfl rfl h2 ?_
  refine x_b 1 (S2 := (5, [some (.ref x0), some (.int x1)], [.int x1, .ref v1], (mk B), B.kc, B.kn)) rfl ?_
  obtain ⟨v3, h4, hr⟩ := bd_some hr
  refine x_aR rfl rfl h4 ?_
  obtain ⟨uh6, h6, hr⟩ := bd_some hr
  obtain ⟨h5, -⟩ := itn_some h6
  cases hr
  rw [kr]
  exact x_ret rfl rfl (am_ret_h h5)
theorem m_351 {scr : ASc} {B : Wd} {x0 : Nat} {x1 : Int32} {o : Nat} (hr : F_351 B x0 x1 = some o) : RnW scr 2 351 [.ref x0, .int x1] B (.inl (some (.ref o))) B :=
  x_methW (M := am_M351) rfl (show 2 ≤ 2 by decide) (f_351 (Nat.le_refl _) hr rfl)
/-- java/util/Objects.checkIndex(II)I -/
def F_363 (B : Wd) (x0 : Int32) (x1 : Int32) : Option (Int32) :=
  (F_262 B x0 x1 none).bind fun v2 =>
  some v2
theorem f_363 {d : Nat} (hd : 2 ≤ d) {scr : ASc} {res : ARe} {B : Wd} {x0 : Int32} {x1 : Int32} {o : Int32} (hr : F_363 B x0 x1 = some o) (kr : res = (.inl (some (.int o)), mk B, Wd.kc B, Wd.kn B)) : Ex d am_M363 scr (0, [some (.int x0), some (.int x1)], [], (mk B), B.kc, B.kn) res := by
  delta F_363 at hr
  refine x_b 3 (S2 := (3, [some (.int x0), some (.int x1)], [.null, .int x1, .int x0], (mk B), B.kc, B.kn)) rfl ?_
  obtain ⟨v2, h1, hr⟩ := bd_some hr
  refine x_cW (m_262 h1) rfl rfl rfl rfl rfl (by omega) ?_
  cases hr
  rw [kr]
  exact x_ret rfl rfl am_ret_i
theorem m_363 {scr : ASc} {B : Wd} {x0 : Int32} {x1 : Int32} {o : Int32} (hr : F_363 B x0 x1 = some o) : RnW scr 3 363 [.int x0, .int x1] B (.inl (some (.int o))) B :=
  x_methW (M := am_M363) rfl (show 2 ≤ 2 by decide) (f_363 (Nat.le_refl _) hr rfl)
/-- java/util/ArrayList.get(I)Ljava/lang/Object; -/
def F_352 (B : Wd) (x0 : Nat) (x1 : Int32) : Option (Nat) :=
  (B.gI x0 10 2).bind fun v1 =>
  (F_363 B x1 v1).bind fun v4 =>
  (B.rc x0 10).bind fun _ =>
  (F_351 B x0 x1).bind fun v7 =>
  (if v7 < am_SB then some () else none).bind fun _ =>
  some v7
theorem f_352 {d : Nat} (hd : 3 ≤ d) {scr : ASc} {res : ARe} {B : Wd} {x0 : Nat} {x1 : Int32} {o : Nat} (hr : F_352 B x0 x1 = some o) (kr : res = (.inl (some (.ref o)), mk B, Wd.kc B, Wd.kn B)) : Ex d am_M352 scr (0, [some (.ref x0), some (.int x1)], [], (mk B), B.kc, B.kn) res := by
  delta F_352 at hr
  refine x_b 2 (S2 := (2, [some (.ref x0), some (.int x1)], [.ref x0, .int x1], (mk B), B.kc, B.kn)) rfl ?_
  obtain ⟨v1, h2, hr⟩ := bd_some hr
  refine x_gI rfl rfl h2 ?_
  obtain ⟨v4, h3, hr⟩ := bd_some hr
  refine x_cW (m_363 h3) rfl rfl rfl rfl rfl (by omega) ?_
  refine x_b 3 (S2 := (11, [some (.ref x0), some (.int x1)], [.int x1, .ref x0], (mk B), B.kc, B.kn)) rfl ?_
  obtain ⟨uh5, h5, hr⟩ := bd_some hr
  obtain ⟨v7, h6, hr⟩ := bd_some hr
  refine x_cW (m_351 h6) rfl rfl rfl rfl (am_recv_c h5 (.inl rfl)) (by omega) ?_
  obtain ⟨uh9, h9, hr⟩ := bd_some hr
  obtain ⟨h8, -⟩ := itn_some h9
  cases hr
  rw [kr]
  exact x_ret rfl rfl (am_ret_h h8)
theorem m_352 {scr : ASc} {B : Wd} {x0 : Nat} {x1 : Int32} {o : Nat} (hr : F_352 B x0 x1 = some o) : RnW scr 4 352 [.ref x0, .int x1] B (.inl (some (.ref o))) B :=
  x_methW (M := am_M352) rfl (show 2 ≤ 2 by decide) (f_352 (Nat.le_refl _) hr rfl)
def J_353_0_j11 (B : Wd) (x0 : Nat) (x1 : Nat) (x2 : Nat) (x3 : Int32) : Option (Wd) :=
  (B.sR x2 x3 x1).bind fun B4 =>
  (B4.pv x0 10 2 (.int (x3 + 1))).bind fun B6 =>
  some B6
theorem j_353_0_j11 {d : Nat} (hd : 4 ≤ d) {scr : ASc} {res : ARe} {B : Wd} {x0 : Nat} {x1 : Nat} {x2 : Nat} {x3 : Int32} {o : Wd} (hr : J_353_0_j11 B x0 x1 x2 x3 = some o) (kr : res = (.inl none, mk o, Wd.kc o, Wd.kn o)) : Ex d am_M353 scr (11, [some (.ref x0), some (.ref x1), some (.ref x2), some (.int x3)], [], (mk B), B.kc, B.kn) res := by
  delta J_353_0_j11 at hr
  refine x_b 3 (S2 := (14, [some (.ref x0), some (.ref x1), some (.ref x2), some (.int x3)], [.ref x1, .int x3, .ref x2], (mk B), B.kc, B.kn)) rfl ?_
  obtain ⟨B4, h5, hr⟩ := bd_some hr
  refine x_sR rfl rfl h5 ?_
  refine x_b 4 (S2 := (19, [some (.ref x0), some (.ref x1), some (.ref x2), some (.int x3)], [.int (x3 + 1), .ref x0], (mk B4), B4.kc, B4.kn)) rfl ?_
  obtain ⟨B6, h7, hr⟩ := bd_some hr
  refine x_pv rfl rfl h7 ?_
  cases hr
  rw [kr]
  exact x_ret rfl rfl rfl
/-- java/util/ArrayList.add(Ljava/lang/Object;[Ljava/lang/Object;I)V -/
def F_353 (B : Wd) (x0 : Nat) (x1 : Nat) (x2 : Nat) (x3 : Int32) : Option (Wd) :=
  (B.ln x2).bind fun v1 =>
  if ¬ x3 = v1 then
    J_353_0_j11 B x0 x1 x2 x3
  else
    (B.rc x0 10).bind fun _ =>
    (F_348 B x0).bind fun (a10, B11) =>
    J_353_0_j11 B11 x0 x1 a10 x3
theorem f_353 {d : Nat} (hd : 4 ≤ d) {scr : ASc} {res : ARe} {B : Wd} {x0 : Nat} {x1 : Nat} {x2 : Nat} {x3 : Int32} {o : Wd} (hr : F_353 B x0 x1 x2 x3 = some o) (kr : res = (.inl none, mk o, Wd.kc o, Wd.kn o)) : Ex d am_M353 scr (0, [some (.ref x0), some (.ref x1), some (.ref x2), some (.int x3)], [], (mk B), B.kc, B.kn) res := by
  delta F_353 at hr
  refine x_b 2 (S2 := (2, [some (.ref x0), some (.ref x1), some (.ref x2), some (.int x3)], [.ref x2, .int x3], (mk B), B.kc, B.kn)) rfl ?_
  obtain ⟨v1, h2, hr⟩ := bd_some hr
  refine x_ln rfl rfl h2 ?_
  rcases ite_some hr with ⟨h3, hr⟩ | ⟨h3, hr⟩
  · refine x_ct rfl rfl (decide_eq_true h3) ?_
    refine x_fg (Lq.s (Lq.s (Lq.s (Lq.s Lq.nil)))) ?_
    exact j_353_0_j11 hd hr kr
  · refine x_cf rfl rfl (decide_eq_false h3) ?_
    refine x_b 1 (S2 := (7, [some (.ref x0), some (.ref x1), some (.ref x2), some (.int x3)], [.ref x0], (mk B), B.kc, B.kn)) rfl ?_
    obtain ⟨uh8, h8, hr⟩ := bd_some hr
    obtain ⟨⟨a10, B11⟩, h9, hr⟩ := bd_some hr
    refine x_cW (m_348 h9) rfl rfl rfl rfl (am_recv_c h8 (.inl rfl)) (by omega) ?_
    refine x_b 1 (S2 := (11, [some (.ref x0), some (.ref x1), some (.ref a10), some (.int x3)], [], (mk B11), B11.kc, B11.kn)) rfl ?_
    refine x_fg (Lq.s (Lq.s (Lq.s (Lq.s Lq.nil)))) ?_
    exact j_353_0_j11 hd hr kr
theorem m_353 {scr : ASc} {B : Wd} {x0 : Nat} {x1 : Nat} {x2 : Nat} {x3 : Int32} {o : Wd} (hr : F_353 B x0 x1 x2 x3 = some o) : RnW scr 5 353 [.ref x0, .ref x1, .ref x2, .int x3] B (.inl none) o :=
  x_methW (M := am_M353) rfl (show 4 ≤ 4 by decide) (f_353 (Nat.le_refl _) hr rfl)
/-- java/util/ArrayList.add(Ljava/lang/Object;)Z -/
def F_354 (B : Wd) (x0 : Nat) (x1 : Nat) : Option (Int32 × Wd) :=
  (B.gI x0 10 0).bind fun v1 =>
  (B.pv x0 10 0 (.int (v1 + 1))).bind fun B3 =>
  (B3.gR x0 10 1).bind fun v5 =>
  (B3.gI x0 10 2).bind fun v7 =>
  (B3.rc x0 10).bind fun _ =>
  (F_353 B3 x0 x1 v5 v7).bind fun B11 =>
  some (1, B11)
theorem f_354 {d : Nat} (hd : 5 ≤ d) {scr : ASc} {res : ARe} {B : Wd} {x0 : Nat} {x1 : Nat} {o : Int32 × Wd} (hr : F_354 B x0 x1 = some o) (kr : res = (.inl (some (.int o.1)), mk o.2, Wd.kc o.2, Wd.kn o.2)) : Ex d am_M354 scr (0, [some (.ref x0), some (.ref x1)], [], (mk B), B.kc, B.kn) res := by
  delta F_354 at hr
  refine x_b 2 (S2 := (2, [some (.ref x0), some (.ref x1)], [.ref x0, .ref x0], (mk B), B.kc, B.kn)) rfl ?_
  obtain ⟨v1, h2, hr⟩ := bd_some hr
  refine x_gI rfl rfl h2 ?_
  refine x_b 2 (S2 := (7, [some (.ref x0), some (.ref x1)], [.int (v1 + 1), .ref x0], (mk B), B.kc, B.kn)) rfl ?_
  obtain ⟨B3, h4, hr⟩ := bd_some hr
  refine x_pv rfl rfl h4 ?_
  refine x_b 3 (S2 := (13, [some (.ref x0), some (.ref x1)], [.ref x0, .ref x1, .ref x0], (mk B3), B3.kc, B3.kn)) rfl ?_
  obtain ⟨v5, h6, hr⟩ := bd_some hr
  refine x_gR rfl rfl h6 ?_
  refine x_b 1 (S2 := (17, [some (.ref x0), some (.ref x1)], [.ref x0, .ref v5, .ref x1, .ref x0], (mk B3), B3.kc, B3.kn)) rfl ?_
  obtain ⟨v7, h8, hr⟩ := bd_some hr
  refine x_gI rfl rfl h8 ?_
  obtain ⟨uh9, h9, hr⟩ := bd_some hr
  obtain ⟨B11, h10, hr⟩ := bd_some hr
  refine x_cW (m_353 h10) rfl rfl rfl rfl (am_recv_c h9 (.inl rfl)) (by omega) ?_
  refine x_b 1 (S2 := (24, [some (.ref x0), some (.ref x1)], [.int 1], (mk B11), B11.kc, B11.kn)) rfl ?_
  cases hr
  rw [kr]
  exact x_ret rfl rfl (am_ret_z (by decide))
theorem m_354 {scr : ASc} {B : Wd} {x0 : Nat} {x1 : Nat} {o : Int32 × Wd} (hr : F_354 B x0 x1 = some o) : RnW scr 6 354 [.ref x0, .ref x1] B (.inl (some (.int o.1))) o.2 :=
  x_methW (M := am_M354) rfl (show 2 ≤ 2 by decide) (f_354 (Nat.le_refl _) hr rfl)
def J_356_0_j34 (B : Wd) (x0 : Nat) (x1 : Nat) (x3 : Int32) : Option (Wd) :=
  (B.pv x0 10 2 (.int x3)).bind fun B8 =>
  (B8.sN x1 x3).bind fun B10 =>
  some B10
theorem j_356_0_j34 {d : Nat} (hd : 1 ≤ d) {scr : ASc} {res : ARe} {B : Wd} {x0 : Nat} {x1 : Nat} {x3 : Int32} {o : Wd} (hr : J_356_0_j34 B x0 x1 x3 = some o) (kr : res = (.inl none, mk o, Wd.kc o, Wd.kn o)) : Ex d am_M356 scr (34, [some (.ref x0), some (.ref x1), none, some (.int x3)], [], (mk B), B.kc, B.kn) res := by
  delta J_356_0_j34 at hr
  refine x_b 4 (S2 := (38, [some (.ref x0), some (.ref x1), none, some (.int x3)], [.int x3, .ref x0, .int x3, .ref x1], (mk B), B.kc, B.kn)) rfl ?_
  obtain ⟨B8, h9, hr⟩ := bd_some hr
  refine x_pv rfl rfl h9 ?_
  refine x_b 1 (S2 := (42, [some (.ref x0), some (.ref x1), none, some (.int x3)], [.null, .int x3, .ref x1], (mk B8), B8.kc, B8.kn)) rfl ?_
  obtain ⟨B10, h11, hr⟩ := bd_some hr
  refine x_sN rfl rfl h11 ?_
  cases hr
  rw [kr]
  exact x_ret rfl rfl rfl
/-- java/util/ArrayList.fastRemove([Ljava/lang/Object;I)V -/
def F_356 (B : Wd) (x0 : Nat) (x1 : Nat) (x2 : Int32) : Option (Wd) :=
  (B.gI x0 10 0).bind fun v1 =>
  (B.pv x0 10 0 (.int (v1 + 1))).bind fun B3 =>
  (B3.gI x0 10 2).bind fun v5 =>
  if (v5 - 1) ≤ x2 then
    J_356_0_j34 B3 x0 x1 (v5 - 1)
  else
    (B3.cp x1 (x2 + 1) x1 x2 ((v5 - 1) - x2)).bind fun B12 =>
    J_356_0_j34 B12 x0 x1 (v5 - 1)
theorem f_356 {d : Nat} (hd : 1 ≤ d) {scr : ASc} {res : ARe} {B : Wd} {x0 : Nat} {x1 : Nat} {x2 : Int32} {o : Wd} (hr : F_356 B x0 x1 x2 = some o) (kr : res = (.inl none, mk o, Wd.kc o, Wd.kn o)) : Ex d am_M356 scr (0, [some (.ref x0), some (.ref x1), some (.int x2), none], [], (mk B), B.kc, B.kn) res := by
  delta F_356 at hr
  refine x_b 2 (S2 := (2, [some (.ref x0), some (.ref x1), some (.int x2), none], [.ref x0, .ref x0], (mk B), B.kc, B.kn)) rfl ?_
  obtain ⟨v1, h2, hr⟩ := bd_some hr
  refine x_gI rfl rfl h2 ?_
  refine x_b 2 (S2 := (7, [some (.ref x0), some (.ref x1), some (.int x2), none], [.int (v1 + 1), .ref x0], (mk B), B.kc, B.kn)) rfl ?_
  obtain ⟨B3, h4, hr⟩ := bd_some hr
  refine x_pv rfl rfl h4 ?_
  refine x_b 1 (S2 := (11, [some (.ref x0), some (.ref x1), some (.int x2), none], [.ref x0], (mk B3), B3.kc, B3.kn)) rfl ?_
  obtain ⟨v5, h6, hr⟩ := bd_some hr
  refine x_gI rfl rfl h6 ?_
  refine x_b 5 (S2 := (19, [some (.ref x0), some (.ref x1), some (.int x2), some (.int (v5 - 1))], [.int x2, .int (v5 - 1)], (mk B3), B3.kc, B3.kn)) rfl ?_
  rcases ite_some hr with ⟨h7, hr⟩ | ⟨h7, hr⟩
  · refine x_ct rfl rfl (decide_eq_true h7) ?_
    refine x_fg (Lq.s (Lq.s (Lq.n (Lq.s Lq.nil)))) ?_
    exact j_356_0_j34 hd hr kr
  · refine x_cf rfl rfl (decide_eq_false h7) ?_
    refine x_b 9 (S2 := (31, [some (.ref x0), some (.ref x1), some (.int x2), some (.int (v5 - 1))], [.int ((v5 - 1) - x2), .int x2, .ref x1, .int (x2 + 1), .ref x1], (mk B3), B3.kc, B3.kn)) rfl ?_
    obtain ⟨B12, h13, hr⟩ := bd_some hr
    refine x_cp rfl rfl (Nat.le_of_ble_eq_true rfl) h13 ?_
    refine x_fg (Lq.s (Lq.s (Lq.n (Lq.s Lq.nil)))) ?_
    exact j_356_0_j34 hd hr kr
theorem m_356 {scr : ASc} {B : Wd} {x0 : Nat} {x1 : Nat} {x2 : Int32} {o : Wd} (hr : F_356 B x0 x1 x2 = some o) : RnW scr 2 356 [.ref x0, .ref x1, .int x2] B (.inl none) o :=
  x_methW (M := am_M356) rfl (show 3 ≤ 4 by decide) (f_356 (Nat.le_refl _) hr rfl)
/-- java/util/ArrayList.remove(I)Ljava/lang/Object; -/
def F_355 (B : Wd) (x0 : Nat) (x1 : Int32) : Option (Nat × Wd) :=
  (B.gI x0 10 2).bind fun v1 =>
  (F_363 B x1 v1).bind fun v4 =>
  (B.gR x0 10 1).bind fun v5 =>
  (B.aR v5 x1).bind fun v7 =>
  (B.rc x0 10).bind fun _ =>
  (F_356 B x0 v5 x1).bind fun B11 =>
  (if v7 < am_SB then some () else none).bind fun _ =>
  some (v7, B11)
theorem f_355 {d : Nat} (hd : 3 ≤ d) {scr : ASc} {res : ARe} {B : Wd} {x0 : Nat} {x1 : Int32} {o : Nat × Wd} (hr : F_355 B x0 x1 = some o) (kr : res = (.inl (some (.ref o.1)), mk o.2, Wd.kc o.2, Wd.kn o.2)) : Ex d am_M355 scr (0, [some (.ref x0), some (.int x1), none, none], [], (mk B), B.kc, B.kn) res := by
  delta F_355 at hr
  refine x_b 2 (S2 := (2, [some (.ref x0), some (.int x1), none, none], [.ref x0, .int x1], (mk B), B.kc, B.kn)) rfl ?_
  obtain ⟨v1, h2, hr⟩ := bd_some hr
  refine x_gI rfl rfl h2 ?_
  obtain ⟨v4, h3, hr⟩ := bd_some hr
  refine x_cW (m_363 h3) rfl rfl rfl rfl rfl (by omega) ?_
  refine x_b 2 (S2 := (10, [some (.ref x0), some (.int x1), none, none], [.ref x0], (mk B), B.kc, B.kn)) rfl ?_
  obtain ⟨v5, h6, hr⟩ := bd_some hr
  refine x_gR rfl rfl h6 ?_
  refine x_b 3 (S2 := (16, [some (.ref x0), some (.int x1), some (.ref v5), none], [.int x1, .ref v5], (mk B), B.kc, B.kn)) rfl ?_
  obtain ⟨v7, h8, hr⟩ := bd_some hr
  refine x_aR rfl rfl h8 ?_
  refine x_b 4 (S2 := (21, [some (.ref x0), some (.int x1), some (.ref v5), some (.ref v7)], [.int x1, .ref v5, .ref x0], (mk B), B.kc, B.kn)) rfl ?_
  obtain ⟨uh9, h9, hr⟩ := bd_some hr
  obtain ⟨B11, h10, hr⟩ := bd_some hr
  refine x_cW (m_356 h10) rfl rfl rfl rfl (am_recv_c h9 (.inl rfl)) (by omega) ?_
  refine x_b 1 (S2 := (25, [some (.ref x0), some (.int x1), some (.ref v5), some (.ref v7)], [.ref v7], (mk B11), B11.kc, B11.kn)) rfl ?_
  obtain ⟨uh13, h13, hr⟩ := bd_some hr
  obtain ⟨h12, -⟩ := itn_some h13
  cases hr
  rw [kr]
  exact x_ret rfl rfl (am_ret_h h12)
theorem m_355 {scr : ASc} {B : Wd} {x0 : Nat} {x1 : Int32} {o : Nat × Wd} (hr : F_355 B x0 x1 = some o) : RnW scr 4 355 [.ref x0, .int x1] B (.inl (some (.ref o.1))) o.2 :=
  x_methW (M := am_M355) rfl (show 2 ≤ 4 by decide) (f_355 (Nat.le_refl _) hr rfl)
abbrev P_357_27 (x1 : Nat) (x2 : Int32) (s : Int32 × Wd) : ASt := (27, [none, some (.ref x1), some (.int x2), some (.int s.1)], [], (mk s.2), Wd.kc s.2, Wd.kn s.2)
abbrev PX_357_27 (x1 : Nat) (x2 : Int32) (s : Wd) : ASt := (42, [none, none, none, none], [], (mk s), Wd.kc s, Wd.kn s)
def G_357_27 (x1 : Nat) (x2 : Int32) (s : Int32 × Wd) : Option ((Int32 × Wd) ⊕ (Wd)) := 
  match s with
  | (x3, B) =>
    if x2 ≤ x3 then
      some (.inr B)
    else
      (B.sN x1 x3).bind fun B12 =>
      some (.inl ((x3 + 1), B12))
theorem g_357_27 {d : Nat} (hd : 1 ≤ d) {scr : ASc} {res : ARe} {x1 : Nat} {x2 : Int32} {s : Int32 × Wd} {o : (Int32 × Wd) ⊕ (Wd)} (hr : G_357_27 x1 x2 s = some o) (ka : ∀ s, o = .inl s → Ex d am_M357 scr (P_357_27 x1 x2 s) res) (kx : ∀ s, o = .inr s → Ex d am_M357 scr (PX_357_27 x1 x2 s) res) : Ex d am_M357 scr (P_357_27 x1 x2 s) res := by
  obtain ⟨x3, B⟩ := s
  delta G_357_27 at hr
  show Ex d am_M357 scr (27, [none, some (.ref x1), some (.int x2), some (.int x3)], [], (mk B), B.kc, B.kn) res
  refine x_b 2 (S2 := (29, [none, some (.ref x1), some (.int x2), some (.int x3)], [.int x2, .int x3], (mk B), B.kc, B.kn)) rfl ?_
  rcases ite_some hr with ⟨h11, hr⟩ | ⟨h11, hr⟩
  · refine x_ct rfl rfl (decide_eq_true h11) ?_
    refine x_fg (Lq.s (Lq.n (Lq.n (Lq.n Lq.nil)))) ?_
    exact kx B (Option.some.inj hr).symm
  · refine x_cf rfl rfl (decide_eq_false h11) ?_
    refine x_b 3 (S2 := (35, [none, some (.ref x1), some (.int x2), some (.int x3)], [.null, .int x3, .ref x1], (mk B), B.kc, B.kn)) rfl ?_
    obtain ⟨B12, h13, hr⟩ := bd_some hr
    refine x_sN rfl rfl h13 ?_
    refine x_b 2 (S2 := (27, [none, some (.ref x1), some (.int x2), some (.int (x3 + 1))], [], (mk B12), B12.kc, B12.kn)) rfl ?_
    refine x_fg (Lq.s (Lq.s (Lq.s (Lq.s Lq.nil)))) ?_
    exact ka ((x3 + 1), B12) (Option.some.inj hr).symm
/-- java/util/ArrayList.clear()V -/
def F_357 (B : Wd) (x0 : Nat) : Option (Wd) :=
  (B.gI x0 10 0).bind fun v1 =>
  (B.pv x0 10 0 (.int (v1 + 1))).bind fun B3 =>
  (B3.gR x0 10 1).bind fun v5 =>
  (B3.gI x0 10 2).bind fun v7 =>
  (B3.pv x0 10 2 (.int 0)).bind fun B9 =>
  (lw (G_357_27 v5 v7) 200000 (0, B9)).bind fun B15 =>
  some B15
theorem f_357 {d : Nat} (hd : 1 ≤ d) {scr : ASc} {res : ARe} {B : Wd} {x0 : Nat} {o : Wd} (hr : F_357 B x0 = some o) (kr : res = (.inl none, mk o, Wd.kc o, Wd.kn o)) : Ex d am_M357 scr (0, [some (.ref x0), none, none, none], [], (mk B), B.kc, B.kn) res := by
  delta F_357 at hr
  refine x_b 2 (S2 := (2, [some (.ref x0), none, none, none], [.ref x0, .ref x0], (mk B), B.kc, B.kn)) rfl ?_
  obtain ⟨v1, h2, hr⟩ := bd_some hr
  refine x_gI rfl rfl h2 ?_
  refine x_b 2 (S2 := (7, [some (.ref x0), none, none, none], [.int (v1 + 1), .ref x0], (mk B), B.kc, B.kn)) rfl ?_
  obtain ⟨B3, h4, hr⟩ := bd_some hr
  refine x_pv rfl rfl h4 ?_
  refine x_b 1 (S2 := (11, [some (.ref x0), none, none, none], [.ref x0], (mk B3), B3.kc, B3.kn)) rfl ?_
  obtain ⟨v5, h6, hr⟩ := bd_some hr
  refine x_gR rfl rfl h6 ?_
  refine x_b 2 (S2 := (16, [some (.ref x0), some (.ref v5), none, none], [.ref x0], (mk B3), B3.kc, B3.kn)) rfl ?_
  obtain ⟨v7, h8, hr⟩ := bd_some hr
  refine x_gI rfl rfl h8 ?_
  refine x_b 4 (S2 := (23, [some (.ref x0), some (.ref v5), some (.int v7), none], [.int 0, .ref x0, .int 0], (mk B3), B3.kc, B3.kn)) rfl ?_
  obtain ⟨B9, h10, hr⟩ := bd_some hr
  refine x_pv rfl rfl h10 ?_
  refine x_b 1 (S2 := (27, [some (.ref x0), some (.ref v5), some (.int v7), some (.int 0)], [], (mk B9), B9.kc, B9.kn)) rfl ?_
  refine x_fg (Lq.n (Lq.s (Lq.s (Lq.s Lq.nil)))) ?_
  obtain ⟨B15, h14, hr⟩ := bd_some hr
  refine x_lw (P := P_357_27 v5 v7) (Q := fun x => Ex d am_M357 scr (PX_357_27 v5 v7 x) res) (fun s o h1 ka kx => g_357_27 hd h1 ka kx) _ (0, B9) _ h14 ?_
  show Ex d am_M357 scr (42, [none, none, none, none], [], (mk B15), B15.kc, B15.kn) res
  cases hr
  rw [kr]
  exact x_ret rfl rfl rfl
theorem m_357 {scr : ASc} {B : Wd} {x0 : Nat} {o : Wd} (hr : F_357 B x0 = some o) : RnW scr 2 357 [.ref x0] B (.inl none) o :=
  x_methW (M := am_M357) rfl (show 1 ≤ 4 by decide) (f_357 (Nat.le_refl _) hr rfl)
/-- java/util/ArrayList.iterator()Ljava/util/Iterator; -/
def F_358 (B : Wd) (x0 : Nat) : Option (Nat × Wd) :=
  (B.nO 11).bind fun (a1, B2) =>
  (if a1 < am_SB then some () else none).bind fun _ =>
  (F_342 B2 a1 x0).bind fun B7 =>
  (if a1 < am_SB then some () else none).bind fun _ =>
  some (a1, B7)
theorem f_358 {d : Nat} (hd : 2 ≤ d) {scr : ASc} {res : ARe} {B : Wd} {x0 : Nat} {o : Nat × Wd} (hr : F_358 B x0 = some o) (kr : res = (.inl (some (.ref o.1)), mk o.2, Wd.kc o.2, Wd.kn o.2)) : Ex d am_M358 scr (0, [some (.ref x0)], [], (mk B), B.kc, B.kn) res := by
  delta F_358 at hr
  obtain ⟨⟨a1, B2⟩, h3, hr⟩ := bd_some hr
  refine x_nO rfl rfl h3 ?_
  refine x_b 2 (S2 := (5, [some (.ref x0)], [.ref x0, .ref a1, .ref a1], (mk B2), B2.kc, B2.kn)) rfl ?_
  obtain ⟨uh5, h5, hr⟩ := bd_some hr
  obtain ⟨h4, -⟩ := itn_some h5
  obtain ⟨B7, h6, hr⟩ := bd_some hr
  refine x_cW (m_342 h6) rfl rfl rfl rfl (am_recv_p h4 (by decide)) (by omega) ?_
  obtain ⟨uh9, h9, hr⟩ := bd_some hr
  obtain ⟨h8, -⟩ := itn_some h9
  cases hr
  rw [kr]
  exact x_ret rfl rfl (am_ret_h h8)
theorem m_358 {scr : ASc} {B : Wd} {x0 : Nat} {o : Nat × Wd} (hr : F_358 B x0 = some o) : RnW scr 3 358 [.ref x0] B (.inl (some (.ref o.1))) o.2 :=
  x_methW (M := am_M358) rfl (show 1 ≤ 1 by decide) (f_358 (Nat.le_refl _) hr rfl)
