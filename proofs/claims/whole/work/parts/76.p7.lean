section
variable {N : Nat} {B : Nat → Nat} {mle : Int32} {mli : Nat → Int32}
theorem fsOf_le (N : Nat) (B : Nat → Nat) {i : Nat} (hi : i < N) : fsOf N B i ≤ N ∧ i ≤ fsOf N B i := by
  unfold fsOf
  by_cases c : bsOf N B i = 10
  · rw [if_pos c]; omega
  · rw [if_neg c]
    unfold bsOf at c
    by_cases d : B i = 48
    · rw [if_pos d] at c
      by_cases e : i + 1 < N ∧ B (i + 1) = 120
      · omega
      · rw [if_neg e] at c
        by_cases f : i + 1 < N ∧ B (i + 1) = 98
        · omega
        · rw [if_neg f] at c; omega
    · rw [if_neg d] at c; omega
theorem fsOf_e (N : Nat) (B : Nat → Nat) {i : Nat} (hi : i < N) : fsOf N B i ≤ eNf B (N - i) i := by
  have hE := eNf_ge B (N - i) i
  have hst := eNf_stop B (N - i) i
  unfold fsOf
  by_cases c : bsOf N B i = 10
  · rw [if_pos c]; exact hE.1
  · rw [if_neg c]
    unfold bsOf at c
    by_cases d : B i = 48
    · rw [if_pos d] at c
      have p48 : ptk (B i) = true := by rw [d]; decide
      have key : i + 1 < N → ptk (B (i + 1)) = true → i + 2 ≤ eNf B (N - i) i := by
        intro h1 h2
        rcases Nat.lt_or_ge (eNf B (N - i) i) (i + 2) with q | q
        · have h3 := hst (by omega)
          rcases (show eNf B (N - i) i = i ∨ eNf B (N - i) i = i + 1 by omega) with r | r
          · rw [r, p48] at h3; cases h3
          · rw [r, h2] at h3; cases h3
        · exact q
      by_cases e : i + 1 < N ∧ B (i + 1) = 120
      · exact key e.1 (by rw [e.2]; decide)
      · rw [if_neg e] at c
        by_cases f : i + 1 < N ∧ B (i + 1) = 98
        · exact key f.1 (by rw [f.2]; decide)
        · rw [if_neg f] at c; omega
    · rw [if_neg d] at c; omega
theorem M_number_base (h : MR N B mle mli) {i : Nat} (hi : i < N) (mto : Int32) (mki mbe men : Nat → Int32) (mwo : Nat → Int64) :
    f_M_number mle mto mli mki mbe men mwo (nI i) = f_M_number_j62 mle mto mli mki mbe men mwo (nI i) (nI (bsOf N B i)) := by
  have hN := h.1
  have hB := h.lt i hi
  have j22 : ∀ y0 : Int32, f_M_number_j22 mle mto mli mki mbe men mwo (nI i) y0 = if B i = 48 then (if y0 = 120 then f_M_number_j62 mle mto mli mki mbe men mwo (nI i) 16 else if y0 = 98 then f_M_number_j62 mle mto mli mki mbe men mwo (nI i) 2 else f_M_number_j62 mle mto mli mki mbe men mwo (nI i) 10) else f_M_number_j62 mle mto mli mki mbe men mwo (nI i) 10 := by
    intro y0
    unfold f_M_number_j22
    rw [gi_nI (by omega) (by decide), nI_clamp (by omega), (h.2.2 i hi).2]
    have e48 : nI (B i) = (48 : Int32) ↔ B i = 48 := nI_lit hB (by decide)
    by_cases c : B i = 48
    · rw [if_pos (e48.mpr c), if_pos c]
    · rw [if_neg (fun z => c (e48.mp z)), if_neg c]
  unfold f_M_number bsOf
  rw [nI_1, j22, h.2.1]
  by_cases c : i + 1 < N
  · rw [if_neg (nI_ge c (by omega)), gi_nI (by omega) (by decide), nI_clamp (by omega), (h.2.2 (i + 1) c).2, ← h.2.1, j22]
    have hB1 := h.lt (i + 1) c
    have e120 : nI (B (i + 1)) = (120 : Int32) ↔ B (i + 1) = 120 := nI_lit hB1 (by decide)
    have e98 : nI (B (i + 1)) = (98 : Int32) ↔ B (i + 1) = 98 := nI_lit hB1 (by decide)
    by_cases d : B i = 48
    · rw [if_pos d, if_pos d]
      by_cases e : B (i + 1) = 120
      · rw [if_pos (e120.mpr e), if_pos ⟨c, e⟩]; rfl
      · rw [if_neg (fun z => e (e120.mp z)), if_neg (show ¬ (i + 1 < N ∧ B (i + 1) = 120) from fun z => e z.2)]
        by_cases f : B (i + 1) = 98
        · rw [if_pos (e98.mpr f), if_pos (show i + 1 < N ∧ B (i + 1) = 98 from ⟨c, f⟩)]; rfl
        · rw [if_neg (fun z => f (e98.mp z)), if_neg (show ¬ (i + 1 < N ∧ B (i + 1) = 98) from fun z => f z.2)]; rfl
    · rw [if_neg d, if_neg d]; rfl
  · rw [if_pos (nI_le (by omega) (by omega)), ← h.2.1]
    rw [if_neg (show ¬ (i + 1 < N ∧ B (i + 1) = 120) from fun z => c z.1), if_neg (show ¬ (i + 1 < N ∧ B (i + 1) = 98) from fun z => c z.1)]
    rw [if_neg (show ¬ (0 : Int32) = 120 by decide), if_neg (show ¬ (0 : Int32) = 98 by decide)]
    by_cases d : B i = 48
    · rw [if_pos d, if_pos d]; rfl
    · rw [if_neg d, if_neg d]; rfl
theorem M_number (h : MR N B mle mli) {i : Nat} (hi : i < N) (mto : Int32) (mki mbe men : Nat → Int32) (mwo : Nat → Int64) :
    f_M_number mle mto mli mki mbe men mwo (nI i) = oc (tNum N B i) (some (-1, mto, mki, mbe, men, mwo)) (fun t => (f_M_add mto mki mbe men mwo 2 (nI i) (nI t.1) t.2).bind (fun o => some (nI t.1, o.1, o.2.1, o.2.2.1, o.2.2.2.1, o.2.2.2.2))) := by
  have hN := h.1
  have hbs := bsOf_ok N B i
  have hf := fsOf_le N B hi
  have hfe := fsOf_e N B hi
  have hE := eNf_ge B (N - i) i
  have hall := eNf_all B (N - i) i
  have hst := eNf_stop B (N - i) i
  rw [M_number_base h hi]
  have j62 : f_M_number_j62 mle mto mli mki mbe men mwo (nI i) (nI (bsOf N B i)) = oc (rnf B (bsOf N B i) (N - fsOf N B i) (fsOf N B i) 0) (some ((-1 : Int32), mto, mki, mbe, men, mwo)) (fun p => mEnd mle mto mli mki mbe men mwo (nI i) (nI p.1) (nI (fsOf N B i)) p.2) := by
    unfold f_M_number_j62
    by_cases c : bsOf N B i = 10
    · have hfs : fsOf N B i = i := by unfold fsOf; rw [if_pos c]
      rw [if_pos ((bs10 hbs).mpr c), hfs]
      exact M_number_l h hbs mto mki mbe men mwo (nI i) (nI i) FU i 0 (by omega) (by unfold FU; omega)
    · have hfs : fsOf N B i = i + 2 := by unfold fsOf; rw [if_neg c]
      rw [if_neg (fun z => c ((bs10 hbs).mp z)), show nI i + (2 : Int32) = nI (i + 2) from nI_add i 2, hfs]
      exact M_number_l h hbs mto mki mbe men mwo (nI i) (nI (i + 2)) FU (i + 2) 0 (by omega) (by unfold FU; omega)
  rw [j62]
  unfold tNum
  generalize eNf B (N - i) i = e at *
  generalize fsOf N B i = f at *
  obtain ⟨hag, hle⟩ := num_agree (B := B) (N := N) (bsOf_le N B i) h.lt (e - f) f e 0 rfl hfe (by omega) (fun j a b => hall j (by omega) b) (fun z => hst (by omega))
  rw [hag]
  cases hr : rnf B (bsOf N B i) (N - f) f 0 with
  | none =>
    by_cases c : f < e
    · rw [if_pos c]; rfl
    · rw [if_neg c]; rfl
  | some q =>
    obtain ⟨p, w⟩ := q
    have hp := rnf_bound B _ _ _ _ _ _ hr
    have hpe := hle _ hr
    rw [oc_some]
    show mEnd mle mto mli mki mbe men mwo (nI i) (nI p) (nI f) w = oc (if f < e then (if p = e then some w else none).bind (fun w => some (e, w)) else none) _ _
    have hpe : p ≤ e := hpe
    unfold mEnd
    by_cases c : p = f
    · rw [if_pos (by rw [c])]
      by_cases d : f < e
      · rw [if_pos d, if_neg (show ¬ p = e by omega)]; rfl
      · rw [if_neg d]; rfl
    · rw [if_neg (fun z => c ((nI_eq (by omega) (by omega)).mp z)), M_isPart h (by omega), Option.bind_some]
      have hfe2 : f < e := by omega
      rw [if_pos hfe2]
      by_cases d : p = e
      · rw [if_pos d]
        have hz : (decide (p < N) && ptk (B p)) = false := by
          by_cases g : p < N
          · rw [d] at g ⊢
            rw [hst (by omega)]; simp
          · simp [g]
        rw [if_pos (b01_eq (by rw [hz]; decide)), d]
        rfl
      · rw [if_neg d]
        have hz : (decide (p < N) && ptk (B p)) = true := by
          rw [hall p (by omega) (by omega)]
          simp; omega
        rw [if_neg (b01_ne hz)]
        rfl
end
