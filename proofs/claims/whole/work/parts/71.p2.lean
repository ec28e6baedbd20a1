/-- where the next token begins -/
def nsf (B : Nat → Nat) (N : Nat) : Nat → Nat → Nat
  | 0, _ => N
  | k + 1, i => if B i = 59 then N else if B i = 9 then nsf B N k (i + 1) else if B i = 32 then nsf B N k (i + 1) else i
theorem nI_lit {k c : Nat} (hk : k < 256) (hc : c < 256) : nI k = nI c ↔ k = c := nI_eq (by omega) (by omega)
theorem S_nextStart_l {N : Nat} {B : Nat → Nat} {ln : Int32} {lb : Nat → Int32} (h : LR N B ln lb) : ∀ n i, i ≤ N → N - i < n → f_S_nextStart_l2 n ln lb (nI i) = some (nI (nsf B N (N - i) i)) := by
  have hN := h.1
  have hln := h.2.1
  intro n
  induction n with
  | zero => intro i h1 h2; omega
  | succ n ih =>
    intro i h1 h2
    unfold f_S_nextStart_l2
    rw [L_size, Option.bind_some, hln]
    by_cases c : i < N
    · have hB := (h.2.2 i c).1
      rw [if_neg (nI_ge c (by omega)), ← hln, L_at h (by omega), Option.bind_some]
      rw [show cat N B i = nI (B i) from if_pos c, show N - i = (N - (i + 1)) + 1 by omega]
      unfold nsf
      have e59 : (nI (B i) = (59 : Int32)) ↔ B i = 59 := nI_lit hB (by decide)
      have e9 : (nI (B i) = (9 : Int32)) ↔ B i = 9 := nI_lit hB (by decide)
      have e32 : (nI (B i) = (32 : Int32)) ↔ B i = 32 := nI_lit hB (by decide)
      by_cases c1 : B i = 59
      · rw [if_pos (e59.mpr c1), if_pos c1, Option.bind_some, hln]
      · rw [if_neg (fun z => c1 (e59.mp z)), if_neg c1]
        by_cases c2 : B i = 9
        · rw [if_pos (e9.mpr c2), if_pos c2, nI_1]
          exact ih (i + 1) (by omega) (by omega)
        · rw [if_neg (fun z => c2 (e9.mp z)), if_neg c2]
          by_cases c3 : B i = 32
          · rw [if_pos (e32.mpr c3), if_pos c3, nI_1]
            exact ih (i + 1) (by omega) (by omega)
          · rw [if_neg (fun z => c3 (e32.mp z)), if_neg c3]
    · rw [if_pos (nI_le (by omega) (by omega)), show N - i = 0 by omega, Option.bind_some]
      rfl
theorem S_nextStart {N : Nat} {B : Nat → Nat} {ln : Int32} {lb : Nat → Int32} (h : LR N B ln lb) {i : Nat} (hi : i ≤ N) : f_S_nextStart ln lb (nI i) = some (nI (nsf B N (N - i) i)) := by
  have hN := h.1
  unfold f_S_nextStart
  exact S_nextStart_l h FU i hi (by unfold FU; omega)
theorem nsf_ge (B : Nat → Nat) (N : Nat) : ∀ k i, i + k = N → i ≤ nsf B N k i ∧ nsf B N k i ≤ N := by
  intro k
  induction k with
  | zero => intro i h; unfold nsf; omega
  | succ k ih =>
    intro i h
    unfold nsf
    have := ih (i + 1) (by omega)
    split
    · omega
    · split
      · omega
      · split
        · omega
        · omega
/-- a character inside quotes: how many bytes it takes, 0 if none is there -/
def wdk (N : Nat) (B : Nat → Nat) (i q : Nat) : Nat := if i < N ∧ prk (B i) = true ∧ B i ≠ q then (if B i ≠ 92 then 1 else if i + 1 < N ∧ prk (B (i + 1)) = true then 2 else 0) else 0
theorem pr_cat {N : Nat} {B : Nat → Nat} {ln : Int32} {lb : Nat → Int32} (h : LR N B ln lb) (i : Nat) : f_S_isPrintable (cat N B i) = some (b01 (decide (i < N) && prk (B i))) := by
  unfold cat
  by_cases c : i < N
  · rw [if_pos c, S_isPrintable_k _ (h.2.2 i c).1]; simp [c]
  · rw [if_neg c, S_isPrintable_m]; simp [c, b01]
theorem S_width {N : Nat} {B : Nat → Nat} {ln : Int32} {lb : Nat → Int32} (h : LR N B ln lb) {i q : Nat} (hi : i < 2 ^ 30) (hq : q < 256) : f_S_widthOfCharacter ln lb (nI i) (nI q) = some (nI (wdk N B i q)) := by
  unfold f_S_widthOfCharacter wdk
  rw [L_at h (by omega), Option.bind_some, pr_cat h, Option.bind_some]
  by_cases c : i < N
  · by_cases d : prk (B i) = true
    · have hB := (h.2.2 i c).1
      rw [if_neg (b01_ne (by simp [c, d])), show cat N B i = nI (B i) from if_pos c]
      have eq_ : (nI (B i) = nI q) ↔ B i = q := nI_lit hB hq
      have e92 : (nI (B i) = (92 : Int32)) ↔ B i = 92 := nI_lit hB (by decide)
      by_cases e : B i = q
      · rw [if_pos (eq_.mpr e), if_neg (fun z => z.2.2 e)]; rfl
      · rw [if_neg (fun z => e (eq_.mp z)), if_pos (show i < N ∧ prk (B i) = true ∧ B i ≠ q from ⟨c, d, e⟩)]
        by_cases f : B i = 92
        · rw [if_pos (e92.mpr f), if_neg (show ¬ (B i ≠ 92) from fun z => z f), nI_1, L_at h (by omega), Option.bind_some, pr_cat h, Option.bind_some]
          by_cases g : i + 1 < N ∧ prk (B (i + 1)) = true
          · rw [if_neg (b01_ne (by simp [g.1, g.2])), if_pos g]; rfl
          · rw [if_pos (b01_eq (by simpa using g)), if_neg g]; rfl
        · rw [if_neg (fun z => f (e92.mp z)), if_pos f]; rfl
    · rw [if_pos (b01_eq (by simp [d])), if_neg (fun z => d z.2.1)]; rfl
  · rw [if_pos (b01_eq (by simp [c])), if_neg (fun z => c z.1)]; rfl
