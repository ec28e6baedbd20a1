theorem eCf_le (N : Nat) (B : Nat → Nat) (q : Nat) : ∀ k i, i ≤ N → i ≤ eCf N B q k i ∧ eCf N B q k i ≤ N := by
  intro k
  induction k with
  | zero => intro i h; unfold eCf; omega
  | succ k ih =>
    intro i h
    unfold eCf
    by_cases c : wdk N B i q = 0
    · rw [if_pos c]; omega
    · rw [if_neg c]
      have := ih _ (wdk_in c)
      omega
theorem oc_ite {α β : Type} {c : Prop} (_ : Decidable c) (a b : Option α) (x : Option β) (f : α → Option β) : oc (if c then a else b) x f = if c then oc a x f else oc b x f := by
  by_cases h : c
  · rw [if_pos h, if_pos h]
  · rw [if_neg h, if_neg h]
/-- the class's table of signs; x: what is said of < and > -/
def wsg (o : Int32) (x : Option Int32) : Option Int32 := if o = (36 : Int32) then some (1 : Int32) else if o = (37 : Int32) then some (1 : Int32) else if o = (38 : Int32) then some (1 : Int32) else if o = (40 : Int32) then some (1 : Int32) else if o = (41 : Int32) then some (1 : Int32) else if o = (42 : Int32) then some (1 : Int32) else if o = (43 : Int32) then some (1 : Int32) else if o = (44 : Int32) then some (1 : Int32) else if o = (45 : Int32) then some (1 : Int32) else if o = (47 : Int32) then some (1 : Int32) else if o = (58 : Int32) then some (1 : Int32) else if o = (60 : Int32) then x else if o = (62 : Int32) then x else if o = (91 : Int32) then some (1 : Int32) else if o = (93 : Int32) then some (1 : Int32) else if o = (94 : Int32) then some (1 : Int32) else if o = (124 : Int32) then some (1 : Int32) else if o = (126 : Int32) then some (1 : Int32) else some (0 : Int32)
theorem wsg_x (o : Int32) (x : Option Int32) : wsg o x = oc (wsg o none) x (fun r => some r) := by
  unfold wsg
  simp only [oc_ite, oc_some, oc_none]
set_option maxRecDepth 20000 in
theorem wsg_k : ∀ k, k < 256 → wsg (nI k) none = if k = 60 ∨ k = 62 then none else some (b01 (sgk k)) := by decide +kernel
theorem sgk_no : sgk 60 = false ∧ sgk 62 = false := by decide
section
variable {N : Nat} {B : Nat → Nat} {ln : Int32} {lb : Nat → Int32}
theorem S_wsign (ln : Int32) (lb : Nat → Int32) (p : Int32) : f_S_widthOfSign ln lb p = (f_L_at ln lb p).bind (fun o => wsg o ((f_L_at ln lb (p + 1)).bind (fun q => if q = o then some (2 : Int32) else some (0 : Int32)))) := rfl
theorem T_cutText (h : LR N B ln lb) {i : Nat} (hi : i < N) (tn : Int32) (tk tb te : Nat → Int32) (tw : Nat → Int64) :
    f_T_cutText tn tk tb te tw ln lb (nI i) = oc (tText N B i) (some (-1, tn, tk, tb, te, tw)) (fun t => f_T_keep tn tk tb te tw (nI t.1) (nI i) (nI t.2.1) t.2.2) := by
  have hN := h.1
  have hE := eCf_le N B 34 (N - i) (i + 1) (by omega)
  unfold f_T_cutText tText f_S_endOfCharacters
  rw [nI_1, show (34 : Int32) = nI 34 from rfl, show (0 : Int32) = nI 0 from nI_0.symm, S_endChars h (by decide) FU (i + 1) 0 (by omega) (by omega) (by omega) (by unfold FU; omega), Option.bind_some]
  rw [show N + 1 - (i + 1) = N - i by omega, L_at h (by omega), Option.bind_some]
  have e34 : cat N B (eCf N B 34 (N - i) (i + 1)) = nI 34 ↔ eCf N B 34 (N - i) (i + 1) < N ∧ B (eCf N B 34 (N - i) (i + 1)) = 34 := cat_eq h.lt _ (by decide)
  by_cases c : eCf N B 34 (N - i) (i + 1) < N ∧ B (eCf N B 34 (N - i) (i + 1)) = 34
  · rw [if_pos (e34.mpr c), if_pos c, nI_1, keep_eta]; rfl
  · rw [if_neg (fun z => c (e34.mp z)), if_neg c]; rfl
theorem T_cutSign (h : LR N B ln lb) {i : Nat} (hi : i < N) (tn : Int32) (tk tb te : Nat → Int32) (tw : Nat → Int64) :
    f_T_cutSign tn tk tb te tw ln lb (nI i) = oc (tSign N B i) (some (-1, tn, tk, tb, te, tw)) (fun t => f_T_keep tn tk tb te tw (nI t.1) (nI i) (nI t.2.1) t.2.2) := by
  have hN := h.1
  have hB := h.lt i hi
  unfold f_T_cutSign tSign
  rw [S_wsign, nI_1, L_at h (by omega), L_at h (by omega), Option.bind_some, Option.bind_some, show cat N B i = nI (B i) from if_pos hi, wsg_x, wsg_k _ hB]
  have en : cat N B (i + 1) = nI (B i) ↔ i + 1 < N ∧ B (i + 1) = B i := cat_eq h.lt _ hB
  by_cases c : B i = 60 ∨ B i = 62
  · have hs : ¬ sgk (B i) = true := by rcases c with c | c <;> rw [c] <;> decide
    rw [if_pos c, oc_none, if_neg hs]
    by_cases d : i + 1 < N ∧ B (i + 1) = B i
    · rw [if_pos (en.mpr d), Option.bind_some, if_neg (show ¬ (2 : Int32) = 0 by decide), Option.bind_some, if_pos ⟨c, d⟩, keep_eta, show nI i + (2 : Int32) = nI (i + 2) from nI_add i 2]; rfl
    · rw [if_neg (fun z => d (en.mp z)), Option.bind_some, if_pos rfl, if_neg (fun z => d z.2)]; rfl
  · rw [if_neg c, oc_some, Option.bind_some]
    by_cases e : sgk (B i) = true
    · rw [if_neg (b01_ne e), Option.bind_some, if_pos e, keep_eta, e, show nI i + b01 true = nI (i + 1) from nI_add i 1]; rfl
    · rw [if_pos (b01_eq e), if_neg e, if_neg (fun z => c z.1)]; rfl
theorem T_cutOne (h : LR N B ln lb) {i : Nat} (hi : i < N) (tn : Int32) (tk tb te : Nat → Int32) (tw : Nat → Int64) :
    f_T_cutOne tn tk tb te tw ln lb (nI i) = oc (tok N B i) (some (-1, tn, tk, tb, te, tw)) (fun t => f_T_keep tn tk tb te tw (nI t.1) (nI i) (nI t.2.1) t.2.2) := by
  have hN := h.1
  have hB := h.lt i hi
  unfold f_T_cutOne tok
  rw [L_at h (by omega), Option.bind_some, show cat N B i = nI (B i) from if_pos hi, S_isDigit_k _ hB, Option.bind_some]
  by_cases c : dgk (B i) = true
  · rw [if_neg (b01_ne c), if_pos c, keep_eta, T_cutNumber h hi]
    cases tNum N B i <;> rfl
  · rw [if_pos (b01_eq c), if_neg c, S_isOfNames_k _ hB, Option.bind_some]
    by_cases d : ptk (B i) = true
    · rw [if_neg (b01_ne d), if_pos d, keep_eta, T_cutName h hi]
    · rw [if_pos (b01_eq d), if_neg d]
      have e39 : nI (B i) = (39 : Int32) ↔ B i = 39 := nI_lit hB (by decide)
      have e34 : nI (B i) = (34 : Int32) ↔ B i = 34 := nI_lit hB (by decide)
      by_cases e : B i = 39
      · rw [if_pos (e39.mpr e), if_pos e, keep_eta, T_cutCharacter h hi]
      · rw [if_neg (fun z => e (e39.mp z)), if_neg e]
        by_cases f : B i = 34
        · rw [if_pos (e34.mpr f), if_pos f, keep_eta, T_cutText h hi]
        · rw [if_neg (fun z => f (e34.mp z)), if_neg f, keep_eta, T_cutSign h hi]
end
