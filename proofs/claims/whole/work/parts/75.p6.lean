/-! NUMBERS, on both sides -/
theorem cat_eq {N : Nat} {B : Nat → Nat} (hB : ∀ i, i < N → B i < 256) (j : Nat) {c : Nat} (hc : c < 256) : cat N B j = nI c ↔ j < N ∧ B j = c := by
  unfold cat
  by_cases h : j < N
  · rw [if_pos h, nI_lit (hB j h) hc]
    exact ⟨fun z => ⟨h, z⟩, fun z => z.2⟩
  · rw [if_neg h]
    refine ⟨fun z => ?_, fun z => absurd z.1 h⟩
    have h3 := congrArg Int32.toInt z
    rw [nI_toInt (by omega)] at h3
    have h5 : (-1 : Int32).toInt = -1 := by decide
    omega
def bsOf (N : Nat) (B : Nat → Nat) (i : Nat) : Nat := if B i = 48 then (if i + 1 < N ∧ B (i + 1) = 120 then 16 else if i + 1 < N ∧ B (i + 1) = 98 then 2 else 10) else 10
theorem bsOf_ok (N : Nat) (B : Nat → Nat) (i : Nat) : bsk (bsOf N B i) := by
  unfold bsOf bsk
  split
  · split
    · omega
    · split <;> omega
  · omega
theorem bsOf_le (N : Nat) (B : Nat → Nat) (i : Nat) : bsOf N B i ≤ 16 := by
  rcases bsOf_ok N B i with h | h | h <;> omega
theorem LR.lt {N : Nat} {B : Nat → Nat} {ln : Int32} {lb : Nat → Int32} (h : LR N B ln lb) : ∀ i, i < N → B i < 256 := fun i hi => (h.2.2 i hi).1
theorem MR.lt {N : Nat} {B : Nat → Nat} {ln : Int32} {lb : Nat → Int32} (h : MR N B ln lb) : ∀ i, i < N → B i < 256 := fun i hi => (h.2.2 i hi).1
theorem S_base {N : Nat} {B : Nat → Nat} {ln : Int32} {lb : Nat → Int32} (h : LR N B ln lb) {i : Nat} (hi : i < N) : f_S_baseOfNumber ln lb (nI i) = some (nI (bsOf N B i)) := by
  have hN := h.1
  unfold f_S_baseOfNumber bsOf
  rw [L_at h (by omega), Option.bind_some]
  have e48 : cat N B i = (48 : Int32) ↔ i < N ∧ B i = 48 := cat_eq h.lt i (by decide)
  by_cases c : B i = 48
  · rw [if_pos (e48.mpr ⟨hi, c⟩), if_pos c, nI_1, L_at h (by omega), Option.bind_some]
    have e120 : cat N B (i + 1) = (120 : Int32) ↔ i + 1 < N ∧ B (i + 1) = 120 := cat_eq h.lt (i + 1) (by decide)
    have e98 : cat N B (i + 1) = (98 : Int32) ↔ i + 1 < N ∧ B (i + 1) = 98 := cat_eq h.lt (i + 1) (by decide)
    by_cases d : i + 1 < N ∧ B (i + 1) = 120
    · rw [if_pos (e120.mpr d), if_pos d]; rfl
    · rw [if_neg (fun z => d (e120.mp z)), if_neg d]
      by_cases e : i + 1 < N ∧ B (i + 1) = 98
      · rw [if_pos (e98.mpr e), if_pos e]; rfl
      · rw [if_neg (fun z => e (e98.mp z)), if_neg e]; rfl
  · rw [if_neg (fun z => c (e48.mp z).2), if_neg c]; rfl
def fsOf (N : Nat) (B : Nat → Nat) (i : Nat) : Nat := if bsOf N B i = 10 then i else i + 2
/-- the number token at i: its end and worth -/
def tNum (N : Nat) (B : Nat → Nat) (i : Nat) : Option (Nat × Int64) := if fsOf N B i < eNf B (N - i) i then (numf B (bsOf N B i) (eNf B (N - i) i - fsOf N B i) (fsOf N B i) 0).bind (fun w => some (eNf B (N - i) i, w)) else none
theorem bs10 {b : Nat} (hb : bsk b) : nI b = (10 : Int32) ↔ b = 10 := by
  rcases hb with rfl | rfl | rfl <;> decide
theorem T_cutNumber {N : Nat} {B : Nat → Nat} {ln : Int32} {lb : Nat → Int32} (h : LR N B ln lb) {i : Nat} (hi : i < N) (tn : Int32) (tk tb te : Nat → Int32) (tw : Nat → Int64) :
    f_T_cutNumber tn tk tb te tw ln lb (nI i) = oc (tNum N B i) (some (-1, tn, tk, tb, te, tw)) (fun t => f_T_keep tn tk tb te tw 2 (nI i) (nI t.1) t.2) := by
  have hN := h.1
  have hbs := bsOf_ok N B i
  have hE := eNf_ge B (N - i) i
  unfold f_T_cutNumber tNum fsOf
  rw [S_base h hi, Option.bind_some]
  by_cases c : bsOf N B i = 10
  · rw [if_pos ((bs10 hbs).mpr c), S_endOfName h (by omega), Option.bind_some, if_pos c]
    by_cases d : i < eNf B (N - i) i
    · rw [if_pos (nI_lt d (by omega)), if_pos d, T_number_l h hbs (by omega) _ _ _ _ _ _ FU i 0 (by omega) (by unfold FU; omega)]
      cases numf B (bsOf N B i) (eNf B (N - i) i - i) i 0 <;> rfl
    · rw [if_neg (nI_nlt (by omega) (by omega)), if_neg d]; rfl
  · rw [if_neg (fun z => c ((bs10 hbs).mp z)), S_endOfName h (by omega), Option.bind_some, if_neg c]
    rw [show nI i + (2 : Int32) = nI (i + 2) from nI_add i 2]
    by_cases d : i + 2 < eNf B (N - i) i
    · rw [if_pos (nI_lt d (by omega)), if_pos d, T_number_l h hbs (by omega) _ _ _ _ _ _ FU (i + 2) 0 (by omega) (by unfold FU; omega)]
      cases numf B (bsOf N B i) (eNf B (N - i) i - (i + 2)) (i + 2) 0 <;> rfl
    · rw [if_neg (nI_nlt (by omega) (by omega)), if_neg d]; rfl
