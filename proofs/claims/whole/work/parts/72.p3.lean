/-! Digits, and whether a number has room for one more -/
def dvk (k : Nat) : Nat := if 48 ≤ k ∧ k ≤ 57 then k - 48 else if 97 ≤ k ∧ k ≤ 102 then k - 87 else if 65 ≤ k ∧ k ≤ 70 then k - 55 else 99
set_option maxRecDepth 20000 in
theorem S_digit_2 : ∀ k, k < 256 → f_S_digit (nI k) (nI 2) = some (if dvk k < 2 then nI (dvk k) else -1) := by decide +kernel
set_option maxRecDepth 20000 in
theorem S_digit_10 : ∀ k, k < 256 → f_S_digit (nI k) (nI 10) = some (if dvk k < 10 then nI (dvk k) else -1) := by decide +kernel
set_option maxRecDepth 20000 in
theorem S_digit_16 : ∀ k, k < 256 → f_S_digit (nI k) (nI 16) = some (if dvk k < 16 then nI (dvk k) else -1) := by decide +kernel
set_option maxRecDepth 20000 in
theorem M_digit_k : ∀ k, k < 256 → f_M_digit (nI k) = some (nI (dvk k)) := by decide +kernel
set_option maxRecDepth 20000 in
theorem dvk_le : ∀ k, k < 256 → dvk k ≤ 99 := by decide +kernel
set_option maxRecDepth 20000 in
theorem dvk_pt : ∀ k, k < 256 → dvk k < 16 → ptk k = true := by decide +kernel
/-- the bases -/
def bsk (b : Nat) : Prop := b = 2 ∨ b = 10 ∨ b = 16
theorem S_digit_k {b : Nat} (hb : bsk b) {k : Nat} (hk : k < 256) : f_S_digit (nI k) (nI b) = some (if dvk k < b then nI (dvk k) else -1) := by
  rcases hb with rfl | rfl | rfl
  · exact S_digit_2 k hk
  · exact S_digit_10 k hk
  · exact S_digit_16 k hk
/-- room for one digit more, as the class says it -/
def rmk (v : Int64) (b d : Nat) : Bool := f_S_hasRoom v (nI b) (nI d) == some 1
theorem S_room (v : Int64) (p d : Int32) : f_S_hasRoom v p d = some (b01 (f_S_hasRoom v p d == some 1)) := by
  unfold f_S_hasRoom
  repeat' split
  all_goals rfl
theorem S_room_k (v : Int64) (b d : Nat) : f_S_hasRoom v (nI b) (nI d) = some (b01 (rmk v b d)) := S_room v _ _
/-- one digit more -/
def nxk (v : Int64) (b d : Nat) : Int64 := v * (nI b).toInt64 + (nI d).toInt64
/-- k digits from place i on; none: one of them is no digit, or has no room -/
def numf (B : Nat → Nat) (b : Nat) : Nat → Nat → Int64 → Option Int64
  | 0, _, v => some v
  | k + 1, i, v => if dvk (B i) < b then (if rmk v b (dvk (B i)) = true then numf B b k (i + 1) (nxk v b (dvk (B i))) else none) else none
theorem keep_eta (x : Option (Int32 × Int32 × (Nat → Int32) × (Nat → Int32) × (Nat → Int32) × (Nat → Int64))) : x.bind (fun o => some (o.1, o.2.1, o.2.2.1, o.2.2.2.1, o.2.2.2.2.1, o.2.2.2.2.2)) = x := by
  cases x <;> rfl
theorem T_number_l {N : Nat} {B : Nat → Nat} {ln : Int32} {lb : Nat → Int32} (h : LR N B ln lb) {b : Nat} (hb : bsk b) {e : Nat} (he : e ≤ N) (tn : Int32) (tk tb te : Nat → Int32) (tw : Nat → Int64) (x2 : Int32) :
    ∀ n i v, i ≤ e → e - i < n → f_T_cutNumber_l44 n tn tk tb te tw ln lb x2 (nI b) (nI e) v (nI i) = oc (numf B b (e - i) i v) (some (-1, tn, tk, tb, te, tw)) (fun w => f_T_keep tn tk tb te tw 2 x2 (nI e) w) := by
  have hN := h.1
  intro n
  induction n with
  | zero => intro i v h1 h2; omega
  | succ n ih =>
    intro i v h1 h2
    unfold f_T_cutNumber_l44
    by_cases c : i < e
    · have hi : i < N := by omega
      have hB := (h.2.2 i hi).1
      rw [if_neg (nI_ge c (by omega)), L_at h (by omega), Option.bind_some, show cat N B i = nI (B i) from if_pos hi, S_digit_k hb hB, Option.bind_some]
      rw [show e - i = (e - (i + 1)) + 1 by omega]
      unfold numf
      by_cases d : dvk (B i) < b
      · rw [if_pos d, if_pos d]
        rw [if_neg (show ¬ nI (dvk (B i)) = -1 from fun z => by
          have h3 := congrArg Int32.toInt z
          have h4 := dvk_le _ hB
          rw [nI_toInt (by omega)] at h3
          have h5 : (-1 : Int32).toInt = -1 := by decide
          omega)]
        rw [S_room_k, Option.bind_some]
        by_cases f : rmk v b (dvk (B i)) = true
        · rw [if_neg (b01_ne f), if_pos f, nI_1]
          exact ih (i + 1) _ (by omega) (by omega)
        · rw [if_pos (b01_eq f), if_neg f, oc_none]
      · rw [if_neg d, if_neg d, if_pos rfl, oc_none]
    · rw [if_pos (nI_le (by omega) (by omega)), show e - i = 0 by omega, keep_eta]
      rfl
/-! The reference's number -/
def rnf (B : Nat → Nat) (b : Nat) : Nat → Nat → Int64 → Option (Nat × Int64)
  | 0, i, v => some (i, v)
  | k + 1, i, v => if dvk (B i) < b then (if rmk v b (dvk (B i)) = true then rnf B b k (i + 1) (nxk v b (dvk (B i))) else none) else some (i, v)
theorem lg_neg (v : Int64) : (lg_cmp v 0 < 0) ↔ v < 0 := lg_cmp_lt v 0
def uN (x : Int64) : Nat := x.toUInt64.toNat
theorem uN_lt (x : Int64) : uN x < 18446744073709551616 := x.toUInt64.toNat_lt
theorem uN_inj {x y : Int64} (h : uN x = uN y) : x = y := congrArg UInt64.toInt64 (UInt64.toNat_inj.mp h)
theorem uN_shr (x : Int64) (s : UInt64) : uN (x.toUInt64 >>> s).toInt64 = uN x / 2 ^ (s.toNat % 64) := by
  show (x.toUInt64 >>> s).toNat = _
  rw [UInt64.toNat_shiftRight, Nat.shiftRight_eq_div_pow]
  rfl
theorem uN_s63 (x : Int64) : uN (x.toUInt64 >>> ((63 : Int32).toInt64.toUInt64 &&& Int64.toUInt64 63)).toInt64 = uN x / 9223372036854775808 := by
  have h : ((63 : Int32).toInt64.toUInt64 &&& Int64.toUInt64 63).toNat % 64 = 63 := by decide
  rw [uN_shr, h]
theorem uN_int (x : Int64) : x.toInt = if 2 * uN x < 18446744073709551616 then (uN x : Int) else (uN x : Int) - 18446744073709551616 := BitVec.toInt_eq_toNat_cond _
theorem hi_bit (v : Int64) : (v.toUInt64 >>> ((63 : Int32).toInt64.toUInt64 &&& Int64.toUInt64 63)).toInt64 = 0 ↔ 0 ≤ v := by
  have h1 := uN_s63 v
  have h2 := uN_int v
  have h3 := uN_lt v
  have h0 : uN 0 = 0 := by decide
  have hz : (0 : Int64).toInt = 0 := by decide
  rw [Int64.le_iff_toInt_le, hz]
  constructor
  · intro q
    rw [q, h0] at h1
    by_cases c : 2 * uN v < 18446744073709551616
    · rw [if_pos c] at h2; omega
    · omega
  · intro q
    apply uN_inj
    rw [h1, h0]
    by_cases c : 2 * uN v < 18446744073709551616
    · omega
    · rw [if_neg c] at h2; omega
/-- the reference's test, for each base, is the class's -/
theorem room_10 (v : Int64) (d : Nat) (hd : d < 2 ^ 31) : rmk v 10 d = (decide (0 ≤ v) && (decide (v < 1844674407370955161) || (decide (v = 1844674407370955161) && decide (d ≤ 5)))) := by
  unfold rmk f_S_hasRoom
  rw [if_neg (show ¬ nI 10 = (16 : Int32) by decide), if_neg (show ¬ nI 10 = (2 : Int32) by decide)]
  by_cases c : v < 0
  · rw [if_pos ((lg_cmp_lt v 0).mpr c)]
    have : ¬ (0 : Int64) ≤ v := Int64.not_le.mpr c
    simp [this]
  · have c' : (0 : Int64) ≤ v := Int64.not_lt.mp c
    rw [if_neg (fun z => c ((lg_cmp_lt v 0).mp z))]
    by_cases e : v < 1844674407370955161
    · rw [if_pos ((lg_cmp_lt v _).mpr e)]
      simp [c', e]
    · rw [if_neg (fun z => e ((lg_cmp_lt v _).mp z))]
      by_cases f : v = 1844674407370955161
      · rw [if_pos ((lg_cmp_eq v _).mpr f)]
        by_cases g : (5 : Int32) < nI d
        · rw [if_pos g]
          have : ¬ d ≤ 5 := fun z => (nI_nlt (a := 5) (b := d) z (by decide)) g
          simp [e, this]
        · rw [if_neg g]
          have : d ≤ 5 := Nat.le_of_not_lt fun z => g (nI_lt (a := 5) z hd)
          simp [c', f, this]
      · rw [if_neg (fun z => f ((lg_cmp_eq v _).mp z))]
        simp [e, f]
theorem room_16 (v : Int64) (d : Nat) : rmk v 16 d = decide ((v.toUInt64 >>> ((60 : Int32).toInt64.toUInt64 &&& Int64.toUInt64 63)).toInt64 = 0) := by
  unfold rmk f_S_hasRoom
  rw [if_pos (show nI 16 = (16 : Int32) by decide)]
  generalize (v.toUInt64 >>> ((60 : Int32).toInt64.toUInt64 &&& Int64.toUInt64 63)).toInt64 = x
  by_cases c : x = 0
  · rw [if_pos ((lg_cmp_eq x 0).mpr c)]; simp [c]
  · rw [if_neg (fun z => c ((lg_cmp_eq x 0).mp z))]; simp [c]
theorem room_2 (v : Int64) (d : Nat) : rmk v 2 d = decide (0 ≤ v) := by
  unfold rmk f_S_hasRoom
  rw [if_neg (show ¬ nI 2 = (16 : Int32) by decide), if_pos (show nI 2 = (2 : Int32) by decide)]
  have h := hi_bit v
  generalize (v.toUInt64 >>> ((63 : Int32).toInt64.toUInt64 &&& Int64.toUInt64 63)).toInt64 = x at h ⊢
  by_cases c : x = 0
  · rw [if_pos ((lg_cmp_eq x 0).mpr c)]; simp [h.mp c]
  · rw [if_neg (fun z => c ((lg_cmp_eq x 0).mp z))]
    have : ¬ (0 : Int64) ≤ v := fun z => c (h.mpr z)
    simp [this]
