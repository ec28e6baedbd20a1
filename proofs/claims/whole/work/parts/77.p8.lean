/-! TOKENS of the class: kind, end, worth -/
def tName (N : Nat) (B : Nat → Nat) (i : Nat) : Option (Nat × Nat × Int64) := if eNf B (N - i) i - i ≤ 63 then some (1, eNf B (N - i) i, 0) else none
def esk (k : Nat) : Nat := if k = 110 then 10 else if k = 116 then 9 else if k = 48 then 0 else k
def tChar (N : Nat) (B : Nat → Nat) (i : Nat) : Option (Nat × Nat × Int64) :=
  if wdk N B (i + 1) 39 = 0 then none else if (i + 1 + wdk N B (i + 1) 39 < N ∧ B (i + 1 + wdk N B (i + 1) 39) = 39) ∧ ¬ (i + 2 + wdk N B (i + 1) 39 < N ∧ ptk (B (i + 2 + wdk N B (i + 1) 39)) = true) then
    some (2, i + 2 + wdk N B (i + 1) 39, (nI (if wdk N B (i + 1) 39 = 2 then esk (B (i + 2)) else B (i + 1))).toInt64) else none
def eCf (N : Nat) (B : Nat → Nat) (q : Nat) : Nat → Nat → Nat
  | 0, i => i
  | k + 1, i => if wdk N B i q = 0 then i else eCf N B q k (i + wdk N B i q)
def tText (N : Nat) (B : Nat → Nat) (i : Nat) : Option (Nat × Nat × Int64) := if eCf N B 34 (N - i) (i + 1) < N ∧ B (eCf N B 34 (N - i) (i + 1)) = 34 then some (3, eCf N B 34 (N - i) (i + 1) + 1, 0) else none
def sgk (k : Nat) : Bool := [36, 37, 38, 40, 41, 42, 43, 44, 45, 47, 58, 91, 93, 94, 124, 126].contains k
def dbk (N : Nat) (B : Nat → Nat) (i : Nat) : Prop := (B i = 60 ∨ B i = 62) ∧ i + 1 < N ∧ B (i + 1) = B i
def tSign (N : Nat) (B : Nat → Nat) (i : Nat) : Option (Nat × Nat × Int64) := if sgk (B i) = true then some (4, i + 1, (nI (B i)).toInt64) else if (B i = 60 ∨ B i = 62) ∧ i + 1 < N ∧ B (i + 1) = B i then some (4, i + 2, (nI (B i)).toInt64) else none
def tok (N : Nat) (B : Nat → Nat) (i : Nat) : Option (Nat × Nat × Int64) :=
  if dgk (B i) = true then (tNum N B i).bind (fun t => some (2, t.1, t.2)) else if ptk (B i) = true then tName N B i else if B i = 39 then tChar N B i else if B i = 34 then tText N B i else tSign N B i
theorem wdk_le (N : Nat) (B : Nat → Nat) (i q : Nat) : wdk N B i q ≤ 2 := by
  unfold wdk
  split
  · split
    · omega
    · split <;> omega
  · omega
theorem wdk_in {N : Nat} {B : Nat → Nat} {i q : Nat} (h : wdk N B i q ≠ 0) : i + wdk N B i q ≤ N := by
  unfold wdk at h ⊢
  by_cases c : i < N ∧ prk (B i) = true ∧ B i ≠ q
  · rw [if_pos c] at h ⊢
    by_cases d : B i ≠ 92
    · rw [if_pos d]; omega
    · rw [if_neg d] at h ⊢
      by_cases e : i + 1 < N ∧ prk (B (i + 1)) = true
      · rw [if_pos e]; omega
      · rw [if_neg e] at h; exact absurd rfl h
  · rw [if_neg c] at h; exact absurd rfl h
theorem eCf_fuel (N : Nat) (B : Nat → Nat) (q : Nat) : ∀ a b i, N - i < a → N - i < b → eCf N B q a i = eCf N B q b i := by
  intro a
  induction a with
  | zero => intro b i h1 h2; omega
  | succ a ih =>
    intro b i h1 h2
    cases b with
    | zero => omega
    | succ b =>
      unfold eCf
      by_cases c : wdk N B i q = 0
      · rw [if_pos c, if_pos c]
      · rw [if_neg c, if_neg c]
        have hin := wdk_in c
        exact ih b _ (by omega) (by omega)
section
variable {N : Nat} {B : Nat → Nat} {ln : Int32} {lb : Nat → Int32}
theorem T_cutName (h : LR N B ln lb) {i : Nat} (hi : i < N) (tn : Int32) (tk tb te : Nat → Int32) (tw : Nat → Int64) :
    f_T_cutName tn tk tb te tw ln lb (nI i) = oc (tName N B i) (some (-1, tn, tk, tb, te, tw)) (fun t => f_T_keep tn tk tb te tw (nI t.1) (nI i) (nI t.2.1) t.2.2) := by
  have hN := h.1
  have hE := eNf_ge B (N - i) i
  unfold f_T_cutName tName
  rw [S_endOfName h (by omega), Option.bind_some, pk_sub hE.1]
  by_cases c : eNf B (N - i) i - i ≤ 63
  · rw [if_pos (show nI (eNf B (N - i) i - i) ≤ (63 : Int32) from nI_le (b := 63) c (by decide)), if_pos c, keep_eta]; rfl
  · rw [if_neg (show ¬ nI (eNf B (N - i) i - i) ≤ (63 : Int32) from fun z => c ((nI_leI (b := 63) (by omega) (by decide)).mp z)), if_neg c]; rfl
set_option maxRecDepth 20000 in
theorem S_esc_k : ∀ k, k < 256 → f_S_worthOfEscape (nI k) = some (nI (esk k)) := by decide +kernel
theorem nm_cat (h : LR N B ln lb) (i : Nat) : f_S_isOfNames (cat N B i) = some (b01 (decide (i < N) && ptk (B i))) := by
  unfold cat
  by_cases c : i < N
  · rw [if_pos c, S_isOfNames_k _ (h.2.2 i c).1]; simp [c]
  · rw [if_neg c, S_isOfNames_m]; simp [c, b01]
theorem T_cutCharacter (h : LR N B ln lb) {i : Nat} (hi : i < N) (tn : Int32) (tk tb te : Nat → Int32) (tw : Nat → Int64) :
    f_T_cutCharacter tn tk tb te tw ln lb (nI i) = oc (tChar N B i) (some (-1, tn, tk, tb, te, tw)) (fun t => f_T_keep tn tk tb te tw (nI t.1) (nI i) (nI t.2.1) t.2.2) := by
  have hN := h.1
  have hw2 := wdk_le N B (i + 1) 39
  unfold f_T_cutCharacter tChar
  rw [nI_1, show (39 : Int32) = nI 39 from rfl, S_width h (by omega) (by decide), Option.bind_some]
  by_cases c : wdk N B (i + 1) 39 = 0
  · rw [if_pos (show nI (wdk N B (i + 1) 39) = 0 by rw [c]; rfl), if_pos c]; rfl
  · have hin := wdk_in c
    rw [if_neg (show ¬ nI (wdk N B (i + 1) 39) = 0 from nI_ne0 (by omega) (by omega)), if_neg c, nI_add, L_at h (by omega), Option.bind_some]
    have e39 : cat N B (i + 1 + wdk N B (i + 1) 39) = nI 39 ↔ i + 1 + wdk N B (i + 1) 39 < N ∧ B (i + 1 + wdk N B (i + 1) 39) = 39 := cat_eq h.lt _ (by decide)
    by_cases d : i + 1 + wdk N B (i + 1) 39 < N ∧ B (i + 1 + wdk N B (i + 1) 39) = 39
    · rw [if_pos (e39.mpr d), nI_1, L_at h (by omega), Option.bind_some, nm_cat h, Option.bind_some]
      rw [show i + 1 + wdk N B (i + 1) 39 + 1 = i + 2 + wdk N B (i + 1) 39 by omega]
      by_cases e : i + 2 + wdk N B (i + 1) 39 < N ∧ ptk (B (i + 2 + wdk N B (i + 1) 39)) = true
      · rw [if_neg (b01_ne (by simp [e.1, e.2])), if_neg (fun z => z.2 e)]; rfl
      · rw [if_pos (b01_eq (by simpa using e)), if_pos (show (i + 1 + wdk N B (i + 1) 39 < N ∧ B (i + 1 + wdk N B (i + 1) 39) = 39) ∧ ¬ (i + 2 + wdk N B (i + 1) 39 < N ∧ ptk (B (i + 2 + wdk N B (i + 1) 39)) = true) from ⟨d, e⟩)]
        rw [show (nI (i + 1 + wdk N B (i + 1) 39) - (1 : Int32)) = nI (i + wdk N B (i + 1) 39) by rw [show i + 1 + wdk N B (i + 1) 39 = (i + wdk N B (i + 1) 39) + 1 by omega]; exact nI_pred _]
        rw [L_at h (by omega), Option.bind_some, show cat N B (i + wdk N B (i + 1) 39) = nI (B (i + wdk N B (i + 1) 39)) from if_pos (by omega)]
        have hBw := h.lt (i + wdk N B (i + 1) 39) (by omega)
        by_cases f : wdk N B (i + 1) 39 = 2
        · rw [if_pos (show nI (wdk N B (i + 1) 39) = (2 : Int32) by rw [f]; rfl), S_esc_k _ hBw, Option.bind_some, keep_eta, if_pos f, f]
          rfl
        · have f1 : wdk N B (i + 1) 39 = 1 := by omega
          rw [if_neg (show ¬ nI (wdk N B (i + 1) 39) = (2 : Int32) by rw [f1]; decide), keep_eta, if_neg f, f1]
          rfl
    · rw [if_neg (fun z => d (e39.mp z)), if_neg (fun z => d z.1)]; rfl
theorem S_endChars (h : LR N B ln lb) {q : Nat} (hq : q < 256) : ∀ n i st, 1 ≤ i → i ≤ N → st + (N - i) < 1024 → N - i < n → f_S_endOfCharacters_l5 n ln lb (nI q) (nI i) (nI st) = some (nI (eCf N B q (N + 1 - i) i)) := by
  have hN := h.1
  intro n
  induction n with
  | zero => intro i st h0 h1 h2 h3; omega
  | succ n ih =>
    intro i st h0 h1 h2 h3
    unfold f_S_endOfCharacters_l5
    rw [if_neg (show ¬ (1024 : Int32) ≤ nI st from nI_ge (b := 1024) (by omega) (by decide)), S_width h (by omega) hq, Option.bind_some]
    rw [show N + 1 - i = (N - i) + 1 by omega]
    unfold eCf
    by_cases c : wdk N B i q = 0
    · rw [if_pos (show nI (wdk N B i q) = 0 by rw [c]; rfl), if_pos c]
    · have hin := wdk_in c
      have hw2 := wdk_le N B i q
      rw [if_neg (show ¬ nI (wdk N B i q) = 0 from nI_ne0 (by omega) (by omega)), if_neg c, nI_add, nI_1]
      rw [ih (i + wdk N B i q) (st + 1) (by omega) hin (by omega) (by omega)]
      rw [eCf_fuel N B q (N + 1 - (i + wdk N B i q)) (N - i) (i + wdk N B i q) (by omega) (by omega)]
end
