/-! ===== THE PILES AHEAD: codes, the walk over them, and that there are few ===== -/
variable {n E : Nat}
/-- the pebbles on `v` of the pile of code `c` -/
def qd (c v : Nat) : Nat := c / 16 ^ v % 16
theorem p16 (v : Nat) : 0 < 16 ^ v := Nat.pow_pos (by decide)
theorem qd_lt (c v : Nat) : qd c v < 16 := Nat.mod_lt _ (by decide)
theorem qd_add {c v : Nat} (h : qd c v + 1 < 16) (w : Nat) : qd (c + 16 ^ v) w = if w = v then qd c v + 1 else qd c w := by
  have h1 := p16 v
  unfold qd at *
  rcases Nat.lt_trichotomy w v with hw | hw | hw
  · rw [if_neg (by omega)]
    obtain ⟨k, rfl⟩ : ∃ k, v = w + (k + 1) := ⟨v - w - 1, by omega⟩
    have e : 16 ^ (w + (k + 1)) = 16 ^ w * (16 * 16 ^ k) := by rw [Nat.pow_add, Nat.pow_succ, Nat.mul_comm (16 ^ k) 16]
    rw [e, Nat.add_mul_div_left _ _ (p16 w), Nat.add_mul_mod_self_left]
  · subst hw
    rw [if_pos rfl, Nat.add_div_right _ h1]
    omega
  · rw [if_neg (by omega)]
    obtain ⟨k, rfl⟩ : ∃ k, w = v + 1 + k := ⟨w - v - 1, by omega⟩
    have e : 16 ^ (v + 1 + k) = 16 ^ v * (16 * 16 ^ k) := by rw [Nat.pow_add, Nat.pow_succ, Nat.mul_assoc]
    rw [e, ← Nat.div_div_eq_div_mul, ← Nat.div_div_eq_div_mul, ← Nat.div_div_eq_div_mul, ← Nat.div_div_eq_div_mul, Nat.add_div_right _ h1]
    have : (c / 16 ^ v + 1) / 16 = c / 16 ^ v / 16 := by omega
    rw [this]
theorem qd_sub {c v : Nat} (h : 1 ≤ qd c v) : 16 ^ v ≤ c ∧ ∀ w, qd (c - 16 ^ v) w = if w = v then qd c v - 1 else qd c w := by
  have h1 := p16 v
  have h2 : 16 ^ v ≤ c := by
    refine Nat.le_of_not_lt fun hc => ?_
    unfold qd at h
    rw [Nat.div_eq_of_lt hc] at h
    omega
  refine ⟨h2, fun w => ?_⟩
  have e : c - 16 ^ v + 16 ^ v = c := Nat.sub_add_cancel h2
  have h3 : qd (c - 16 ^ v) v + 1 = qd c v := by
    have : c / 16 ^ v = (c - 16 ^ v) / 16 ^ v + 1 := by rw [← Nat.add_div_right _ h1, e]
    unfold qd at *
    rw [this] at h ⊢
    omega
  have h4 := qd_lt c v
  have h5 := qd_add (c := c - 16 ^ v) (v := v) (by omega) w
  rw [e] at h5
  by_cases hw : w = v
  · subst hw; rw [if_pos rfl]; omega
  · rw [if_neg hw] at h5 ⊢; exact h5.symm
/-- the pile after a move -/
def qm (c u v : Nat) : Nat := c - 2 * 16 ^ u + 16 ^ v
theorem qm_ok {c u v : Nat} (huv : ¬ u = v) (h2 : 2 ≤ qd c u) (hv : qd c v + 1 < 16) : 2 * 16 ^ u ≤ c ∧ ∀ w, qd (qm c u v) w = if w = v then qd c v + 1 else if w = u then qd c u - 2 else qd c w := by
  obtain ⟨a1, a2⟩ := qd_sub (c := c) (v := u) (by omega)
  have a3 := a2 u
  rw [if_pos rfl] at a3
  obtain ⟨b1, b2⟩ := qd_sub (c := c - 16 ^ u) (v := u) (by omega)
  have e : c - 16 ^ u - 16 ^ u = c - 2 * 16 ^ u := by omega
  rw [e] at b2
  have a4 := a2 v
  rw [if_neg (fun h => huv h.symm)] at a4
  have b4 := b2 v
  rw [if_neg (fun h => huv h.symm), a4] at b4
  refine ⟨by omega, fun w => ?_⟩
  unfold qm
  rw [qd_add (by omega) w, b4]
  by_cases hw : w = v
  · rw [if_pos hw, if_pos hw]
  · rw [if_neg hw, if_neg hw, b2 w, a3]
    by_cases hwu : w = u
    · rw [if_pos hwu, if_pos hwu]; omega
    · rw [if_neg hwu, if_neg hwu, a2 w, if_neg hwu]
theorem qd_top {c k : Nat} (h : c < 16 ^ k) {v : Nat} (hv : k ≤ v) : qd c v = 0 := by
  unfold qd
  rw [Nat.div_eq_of_lt (Nat.lt_of_lt_of_le h (Nat.pow_le_pow_right (by decide) hv))]
theorem qd_div (c v : Nat) : qd (c / 16) v = qd c (v + 1) := by
  unfold qd
  rw [Nat.div_div_eq_div_mul, Nat.mul_comm 16, ← Nat.pow_succ]
theorem qd_ext : ∀ {k c d : Nat}, c < 16 ^ k → d < 16 ^ k → (∀ v, v < k → qd c v = qd d v) → c = d
  | 0, _, _, h1, h2, _ => by simp at h1 h2; omega
  | k + 1, c, d, h1, h2, h => by
    have e : 16 ^ (k + 1) = 16 ^ k * 16 := Nat.pow_succ ..
    have r := qd_ext (k := k) (c := c / 16) (d := d / 16) (by omega) (by omega) (fun v hv => by rw [qd_div, qd_div]; exact h (v + 1) (by omega))
    have t := h 0 (by omega)
    unfold qd at t
    rw [Nat.pow_zero, Nat.div_one, Nat.div_one] at t
    omega
theorem qd_step {c k : Nat} (h : c < 16 ^ (k + 1)) (h0 : qd c k = 0) : c < 16 ^ k := by
  have e : 16 ^ (k + 1) = 16 ^ k * 16 := Nat.pow_succ ..
  have h1 : c / 16 ^ k < 16 := by rw [Nat.div_lt_iff_lt_mul (p16 k)]; omega
  unfold qd at h0
  have h2 : c / 16 ^ k = 0 := by rw [Nat.mod_eq_of_lt h1] at h0; exact h0
  exact (Nat.div_eq_zero_iff_lt (p16 k)).1 h2
theorem qm_lt {c u v k : Nat} (hc : c < 16 ^ k) (hu : u < k) (hv : v < k) (huv : ¬ u = v) (h2 : 2 ≤ qd c u) (h1 : qd c v + 1 < 16) : qm c u v < 16 ^ k := by
  obtain ⟨a, b⟩ := qm_ok huv h2 h1
  have e : 16 ^ (k + 1) = 16 ^ k * 16 := Nat.pow_succ ..
  have hp : 16 ^ v ≤ 16 ^ k := Nat.pow_le_pow_right (by decide) (by omega)
  refine qd_step (by unfold qm; omega) ?_
  rw [b k, if_neg (by omega), if_neg (by omega), qd_top hc (Nat.le_refl _)]
/-! few -/
def pt0 : Nat := 0x10004001000400100040010004000000000000000000000000000400100040010004001000400100000000000000000000000000010004001000400100040010004000000000000000000000000000400100040010004001000400100000000000000000000000000010004001000400100040010004000000000000000000000000000400100040010004001000400100000000000000000000000000010004001000400100040010004000000000000000000000000000400100040010004001000400100000000000000000000000000010004001000400100040010004000000000000000000000000000400100040010004001000400100000000000000000000000000010004001000400100040010004000000000000000000000000000400100040010004001000400100000000000000000000000000010004001000400100040010004000000000000000000000000000400100040010004001000400100000000000000000000000000010004001000400100040010004000000000000000000000000
def pt1 : Nat := 0x3c00d002c009001c005000c001000000000000000000000003c00e003000a00200060010002000000000000000000000000000e003400b00240070014003000400000000000000000000000e003400c002800800180040008000000000000000000000000003400c002c009001c005000c001000000000000000000000003400c002c00a00200060010002000000000000000000000000000c002c00a00240070014003000400000000000000000000000c002c00a002400800180040008000000000000000000000000002c00a0024008001c005000c001000000000000000000000002c00a0024008001c0060010002000000000000000000000000000a0024008001c0060014003000400000000000000000000000a0024008001c006001400400080000000000000000000000000024008001c0060014004000c0010000000000000000000000024008001c0060014004000c0020000000000000000000000000008001c0060014004000c0020004000000000000000000000000
def pt2 : Nat := 0x16004800e0028006400d0014001000000000000000000000017004d00f802f008001200200020000000000000000000000000051010c035009c01900340050004000000000000000000000054011803900b001f00480080008000000000000000000000000012403c00c0024006000d0014001000000000000000000000013003f00cc02800740120020002000000000000000000000000004200d802b00840170034005000400000000000000000000004400e002d008c01a0044008000800000000000000000000000000e802f009401c005000c001400100000000000000000000000f0031009c01e005800f0020002000000000000000000000000003300a40200060011002c005000400000000000000000000003400a802100640120030007000800000000000000000000000000ac02200680130034008001000100000000000000000000000b0023006c0140038009001400200000000000000000000000000240070015003c00a00180030004000000000000000000000000
def pt3 : Nat := 0x5c010f02ec07400f4019001c001000000000000000000000064412e0364090014c0260030002000000000000000000000000014f03e00ae01bc03c0064007000400000000000000000000016604340c2020c04e009400c000800000000000000000000000004900d7025c06200dc018001c00100000000000000000000004e40ea02a00720118023003000200000000000000000000000000ff02ec0830158032005c00700040000000000000000000001120330092018c03e008400c0008000000000000000000000000037c0a301c804b00b4016001c00100000000000000000000003a40ac01e805200cc01c002c00200000000000000000000000000b6020c05a00e8022004400600040000000000000000000000bf022c0610100027005400900080000000000000000000000000250069011c02d006800d0014001000000000000000000000027007001340320078010001c00200000000000000000000000000780150038008c01400280040004000000000000000000000000
def pt4 : Nat := 0x12e432007a410801d8028002400100000000000000000000015183950924152029803f004000200000000000000000000000004220af81b203c006f009c009000400000000000000000000049e0c8c20304bc09a00f401000080000000000000000000000000e7c26806000d901a0026002400100000000000000000000010302c0071410e023803b0040002000000000000000000000000032d0874153030c06100940090004000000000000000000000369093817a038407800d000f00080000000000000000000000000a281ab0420096012c01e00200010000000000000000000000af41d404a00ae01700290034002000000000000000000000000020705440ce01d003a0060007000400000000000000000000023205cc0e8021c047008000b0008000000000000000000000000067810a028405a00b40130018001000000000000000000000070812602d806900dc0190024002000000000000000000000000014a034807e0118023003c0050004000000000000000000000000
def pt5 : Nat := 0x33807b210c81ff031c03a002c0010000000000000000000003bfc94115282b2049805f00500020000000000000000000000000b601b643ca07640be00e400b0004000000000000000000000d3a20cc4bc09dc1160174014000800000000000000000000000028346160da41b402d4038002c0010000000000000000000002c746e00fe421603c4054004c00200000000000000000000000007f0130c2a6054c09000bc00a00040000000000000000000008cf159831806780bd0114011000800000000000000000000000019143bb084010801c802700240010000000000000000000001bec43e09a81420250038003c00200000000000000000000000004f40bb419c033805a008000800040000000000000000000005880d581e303ec07400b400d00080000000000000000000000000fa824c05080a1011c01a001c00100000000000000000000011882a005e80c4016c024002c002000000000000000000000000031807380fc01f803800540060004000000000000000000000000
def pt6 : Nat := 0x7ee114921fc39a04f0050003400100000000000000000000099715ab2ccc516079808700600020000000000000000000000001c4f3e547ca0d88131013c00d0004000000000000000000002046490897f11841ae01f0017000800000000000000000000000058e4c2c18582ad03e404400300010000000000000000000006598e491da437005680690054002000000000000000000000000117626184c308740ca00e800b00040000000000000000000014002cc45cb0acc1150160013000800000000000000000000000036ec7760eec1ab028c03100280010000000000000000000003f088c7122421f037404900440020000000000000000000000000ace17682ed054408300a40090004000000000000000000000c6c1b9038e06ac0b000f000f00080000000000000000000000002208498093010a01a40220020001000000000000000000000273056a0b281500230031003400200000000000000000000000006b40e701ce034805400700070004000000000000000000000000
def gtb (t T s : Nat) : Nat := (t >>> (14 * (15 * T + s))) % 16384
def trm (t T s x q : Nat) : Nat := if q ≤ x then gtb t (T - x) (s + (x - q) / 2) else if q - x ≤ s then gtb t (T - x) (s - (q - x)) else 0
def stp6 (t t' : Nat) : Bool := al (fun T => al (fun s => al (fun x => decide (14 < s + T / 2) || Nat.ble (sm (trm t T s x) 16) (gtb t' T s)) (T + 1)) 15) 15
def ptk : Nat → Nat
  | 0 => pt0
  | 1 => pt1
  | 2 => pt2
  | 3 => pt3
  | 4 => pt4
  | 5 => pt5
  | _ => pt6
theorem ptk_ok : al (fun k => stp6 (ptk k) (ptk (k + 1))) 6 = true := by decide +kernel
theorem ptk_0 : al (fun T => al (fun s => decide (14 < s + T / 2) || Nat.ble (if 7 ≤ s then 1 else 0) (gtb pt0 T s)) 15) 15 = true := by decide +kernel
theorem ptk_6 : gtb pt6 14 7 = 8120 := by decide +kernel
theorem len_split (f : Nat → Nat) (m : Nat) : ∀ L : List Nat, (∀ c, c ∈ L → f c < m) → L.length = sm (fun d => (L.filter (fun c => f c == d)).length) m
  | [], _ => by
    have : ∀ m, sm (fun d => (([] : List Nat).filter (fun c => f c == d)).length) m = 0 := fun m => by
      induction m with
      | zero => rfl
      | succ m ih => rw [sm, ih]; rfl
    rw [this]; rfl
  | a :: L, h => by
    have ih := len_split f m L (fun c hc => h c (List.mem_cons_of_mem _ hc))
    have ha := h a (List.mem_cons_self ..)
    have k := sm_upd (f := fun d => (L.filter (fun c => f c == d)).length) (g := fun d => ((a :: L).filter (fun c => f c == d)).length) (v := f a) ha (fun u hu hne => by
      simp only [List.filter_cons]
      rw [if_neg (by simpa using fun e => hne e.symm)])
    have e : ((a :: L).filter (fun c => f c == f a)).length = (L.filter (fun c => f c == f a)).length + 1 := by
      simp only [List.filter_cons]
      rw [if_pos (by simp)]
      rfl
    simp only [e] at k
    rw [List.length_cons]
    omega
theorem sm_mon {f g : Nat → Nat} : ∀ {m : Nat}, (∀ d, d < m → f d ≤ g d) → sm f m ≤ sm g m
  | 0, _ => Nat.le_refl _
  | m + 1, h => by
    have a := sm_mon (f := f) (g := g) (m := m) (fun d hd => h d (by omega))
    have b := h m (by omega)
    simp only [sm]
    omega
theorem few6 (p : Nat → Nat) : ∀ k, k ≤ 6 → ∀ (T s : Nat) (L : List Nat), T ≤ 14 → s + T / 2 ≤ 14 → sm p k ≤ T → L.Pairwise (fun a b => ∃ v, v < k ∧ ¬ qd a v = qd b v) → (∀ c, c ∈ L → 7 + sm (fun v => qd c v - p v) k ≤ s + sm (fun v => (p v - qd c v) / 2) k) → L.length ≤ gtb (ptk k) T s
  | 0, _, T, s, L, hT, hs, _, hL, hc => by
    have h0 := al_iff.1 (al_iff.1 ptk_0 T (by omega)) s (by omega)
    rw [decide_eq_false (by omega), Bool.false_or] at h0
    have h1 := Nat.le_of_ble_eq_true h0
    show L.length ≤ gtb pt0 T s
    cases L with
    | nil => exact Nat.zero_le _
    | cons a L =>
      have h2 := hc a (List.mem_cons_self ..)
      simp only [sm] at h2
      rw [if_pos (by omega)] at h1
      cases L with
      | nil => exact h1
      | cons b L =>
        obtain ⟨v, hv, _⟩ := (List.pairwise_cons.1 hL).1 b (List.mem_cons_self ..)
        omega
  | k + 1, hk, T, s, L, hT, hs, hp, hL, hc => by
    have hx : sm p k + p k ≤ T := hp
    have h0 := al_iff.1 (al_iff.1 (al_iff.1 (al_iff.1 ptk_ok k (by omega)) T (by omega)) s (by omega)) (p k) (by omega)
    rw [decide_eq_false (by omega), Bool.false_or] at h0
    refine Nat.le_trans ?_ (Nat.le_of_ble_eq_true h0)
    rw [len_split (fun c => qd c k) 16 L (fun c _ => qd_lt c k)]
    refine sm_mon fun d hd => ?_
    have hf : (L.filter (fun c => qd c k == d)).Pairwise (fun a b => ∃ v, v < k ∧ ¬ qd a v = qd b v) := by
      refine List.Pairwise.imp_of_mem ?_ (hL.filter _)
      rintro a b ha hb ⟨v, hv, hne⟩
      have a2 := (List.mem_filter.1 ha).2
      have b2 := (List.mem_filter.1 hb).2
      have a3 : qd a k = d := by simpa using a2
      have b3 : qd b k = d := by simpa using b2
      refine ⟨v, ?_, hne⟩
      rcases Nat.lt_or_ge v k with h | h
      · exact h
      · obtain rfl : v = k := by omega
        exact absurd (a3.trans b3.symm) hne
    have hg : ∀ c, c ∈ L.filter (fun c => qd c k == d) → qd c k = d ∧ 7 + (sm (fun v => qd c v - p v) k + (d - p k)) ≤ s + (sm (fun v => (p v - qd c v) / 2) k + (p k - d) / 2) := fun c hm => by
      have m2 := List.mem_filter.1 hm
      have m3 : qd c k = d := by simpa using m2.2
      have m4 := hc c m2.1
      simp only [sm] at m4
      rw [m3] at m4
      exact ⟨m3, m4⟩
    unfold trm
    by_cases hq : d ≤ p k
    · rw [if_pos hq]
      refine few6 p k (by omega) (T - p k) (s + (p k - d) / 2) _ (by omega) (by omega) (by omega) hf fun c hm => ?_
      have := (hg c hm).2
      omega
    · rw [if_neg hq]
      by_cases hq2 : d - p k ≤ s
      · rw [if_pos hq2]
        refine few6 p k (by omega) (T - p k) (s - (d - p k)) _ (by omega) (by omega) (by omega) hf fun c hm => ?_
        have := (hg c hm).2
        omega
      · rw [if_neg hq2]
        refine Nat.le_of_eq ?_
        rw [List.length_eq_zero_iff]
        refine List.eq_nil_iff_forall_not_mem.2 fun c hm => ?_
        have h1 := (hg c hm).2
        have h2 : ∀ j, sm (fun v => (p v - qd c v) / 2) j * 2 ≤ sm p j := fun j => by
          induction j with
          | zero => exact Nat.le_refl _
          | succ j ih => simp only [sm]; omega
        have h3 := h2 k
        omega
