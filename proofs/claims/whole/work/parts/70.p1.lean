/-! PURE ROWS. Characters: naturals below 256; what both sides say of them, by trying all -/
def dgk (k : Nat) : Bool := 48 ≤ k && k ≤ 57
def ptk (k : Nat) : Bool := 97 ≤ k && k ≤ 122 || 65 ≤ k && k ≤ 90 || 48 ≤ k && k ≤ 57 || k == 95 || k == 46
def prk (k : Nat) : Bool := 32 ≤ k && k ≤ 126
def b01 (b : Bool) : Int32 := if b then 1 else 0
set_option maxRecDepth 20000 in
theorem S_isDigit_k : ∀ k, k < 256 → f_S_isDigit (nI k) = some (b01 (dgk k)) := by decide +kernel
set_option maxRecDepth 20000 in
theorem S_isOfNames_k : ∀ k, k < 256 → f_S_isOfNames (nI k) = some (b01 (ptk k)) := by decide +kernel
set_option maxRecDepth 20000 in
theorem S_isPrintable_k : ∀ k, k < 256 → f_S_isPrintable (nI k) = some (b01 (prk k)) := by decide +kernel
set_option maxRecDepth 20000 in
theorem M_isDigit_k : ∀ k, k < 256 → f_M_isDigit (nI k) = some (b01 (dgk k)) := by decide +kernel
set_option maxRecDepth 20000 in
theorem M_isLetter_k : ∀ k, k < 256 → f_M_isLetter (nI k) = some (b01 (ptk k && !dgk k)) := by decide +kernel
theorem S_isDigit_m : f_S_isDigit (-1) = some 0 := by decide +kernel
theorem S_isOfNames_m : f_S_isOfNames (-1) = some 0 := by decide +kernel
theorem S_isPrintable_m : f_S_isPrintable (-1) = some 0 := by decide +kernel
/-! The line on both sides: N bytes B -/
def LR (N : Nat) (B : Nat → Nat) (ln : Int32) (lb : Nat → Int32) : Prop := N ≤ 1024 ∧ ln = nI N ∧ ∀ i, i < N → B i < 256 ∧ lb i &&& 255 = nI (B i)
def MR (N : Nat) (B : Nat → Nat) (mle : Int32) (mli : Nat → Int32) : Prop := N ≤ 1024 ∧ mle = nI N ∧ ∀ i, i < N → B i < 256 ∧ mli i = nI (B i)
/-- the character at a place, -1 outside -/
def cat (N : Nat) (B : Nat → Nat) (i : Nat) : Int32 := if i < N then nI (B i) else -1
theorem gi_nI {α : Type} {i n : Nat} {k : Option α} (h : i < n) (hn : n < 2 ^ 31) : gi (nI i) n k = k := by
  unfold gi
  rw [if_neg (nI_in h hn)]
theorem L_at {N : Nat} {B : Nat → Nat} {ln : Int32} {lb : Nat → Int32} (h : LR N B ln lb) {i : Nat} (hi : i < 2 ^ 31) : f_L_at ln lb (nI i) = some (cat N B i) := by
  obtain ⟨hN, rfl, hB⟩ := h
  unfold f_L_at cat
  rw [if_neg (nI_pos hi)]
  by_cases c : i < N
  · rw [if_neg (nI_ge c (by omega)), gi_nI (by omega) (by decide), if_pos c, nI_clamp hi, (hB i c).2]
  · rw [if_pos (nI_le (by omega) hi), if_neg c]
theorem L_size (ln : Int32) : f_L_size ln = some ln := rfl
/-- how far a name goes -/
def eNf (B : Nat → Nat) : Nat → Nat → Nat
  | 0, i => i
  | k + 1, i => if ptk (B i) then eNf B k (i + 1) else i
theorem eNf_ge (B : Nat → Nat) : ∀ k i, i ≤ eNf B k i ∧ eNf B k i ≤ i + k := by
  intro k
  induction k with
  | zero => intro i; exact ⟨Nat.le_refl _, Nat.le_refl _⟩
  | succ k ih =>
    intro i
    unfold eNf
    by_cases c : ptk (B i) = true
    · rw [if_pos c]; have := ih (i + 1); omega
    · rw [if_neg c]; omega
theorem b01_ne {b : Bool} (h : b = true) : ¬ b01 b = 0 := by rw [h]; decide
theorem b01_eq {b : Bool} (h : ¬ b = true) : b01 b = 0 := by
  cases b with
  | true => exact absurd rfl h
  | false => rfl
theorem S_endOfName_l {N : Nat} {B : Nat → Nat} {ln : Int32} {lb : Nat → Int32} (h : LR N B ln lb) : ∀ n i, i ≤ N → N - i < n → f_S_endOfName_l2 n ln lb (nI i) = some (nI (eNf B (N - i) i)) := by
  have hN := h.1
  have hln := h.2.1
  intro n
  induction n with
  | zero => intro i h1 h2; omega
  | succ n ih =>
    intro i h1 h2
    unfold f_S_endOfName_l2
    rw [L_size, Option.bind_some, hln]
    by_cases c : i < N
    · rw [if_neg (nI_ge c (by omega)), ← hln, L_at h (by omega), Option.bind_some]
      rw [show cat N B i = nI (B i) from if_pos c, S_isOfNames_k _ (h.2.2 i c).1, Option.bind_some]
      rw [show N - i = (N - (i + 1)) + 1 by omega]
      unfold eNf
      by_cases d : ptk (B i) = true
      · rw [if_neg (b01_ne d), if_pos d, nI_1]
        exact ih (i + 1) (by omega) (by omega)
      · rw [if_pos (b01_eq d), if_neg d]
    · rw [if_pos (nI_le (by omega) (by omega)), show N - i = 0 by omega]
      rfl
theorem S_endOfName {N : Nat} {B : Nat → Nat} {ln : Int32} {lb : Nat → Int32} (h : LR N B ln lb) {i : Nat} (hi : i ≤ N) : f_S_endOfName ln lb (nI i) = some (nI (eNf B (N - i) i)) := by
  have hN := h.1
  unfold f_S_endOfName
  exact S_endOfName_l h FU i hi (by unfold FU; omega)
theorem M_isPart {N : Nat} {B : Nat → Nat} {mle : Int32} {mli : Nat → Int32} (h : MR N B mle mli) {i : Nat} (hi : i < 2 ^ 31) : f_M_isPart mle mli (nI i) = some (b01 (decide (i < N) && ptk (B i))) := by
  obtain ⟨hN, rfl, hB⟩ := h
  unfold f_M_isPart
  by_cases c : i < N
  · rw [if_neg (nI_ge c (by omega)), gi_nI (by omega) (by decide), nI_clamp hi, (hB i c).2, M_isLetter_k _ (hB i c).1, Option.bind_some]
    have hd : ∀ k, k < 256 → dgk k = true → ptk k = true := by decide +kernel
    have hd := hd _ (hB i c).1
    by_cases e : ptk (B i) = true
    · by_cases f : dgk (B i) = true
      · rw [if_pos (b01_eq (by simp [e, f])), gi_nI (by omega) (by decide), M_isDigit_k _ (hB i c).1, Option.bind_some, if_neg (b01_ne f)]
        simp [c, e, b01]
      · rw [if_neg (b01_ne (by simp [e, f]))]
        simp [c, e, b01]
    · rw [if_pos (b01_eq (by simp [e])), gi_nI (by omega) (by decide), M_isDigit_k _ (hB i c).1, Option.bind_some, if_pos (b01_eq (fun z => e (hd z)))]
      simp [c, e, b01]
  · rw [if_pos (nI_le (by omega) hi)]
    simp [c, b01]
