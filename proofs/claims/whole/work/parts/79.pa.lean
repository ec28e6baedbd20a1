/-! The reference's next token -/
def wM (k : Nat) (w : Int64) : Int64 := if k = 4 then (if w = 60 then 256 else if w = 62 then 257 else w) else w
def nxM (mto : Int32) (mki mbe men : Nat → Int32) (mwo : Nat → Int64) (i : Nat) (lr : Int32) (t : Option (Nat × Nat × Int64)) : Option (Int32 × Int32 × Int32 × (Nat → Int32) × (Nat → Int32) × (Nat → Int32) × (Nat → Int64)) :=
  oc t (some (-1, mto, lr, mki, mbe, men, mwo)) (fun t => (f_M_add mto mki mbe men mwo (nI t.1) (nI i) (nI t.2.1) (wM t.1 t.2.2)).bind (fun o => some (nI t.2.1, o.1, lr, o.2.1, o.2.2.1, o.2.2.2.1, o.2.2.2.2)))
theorem nxM_none (mto : Int32) (mki mbe men : Nat → Int32) (mwo : Nat → Int64) (i : Nat) (lr : Int32) : nxM mto mki mbe men mwo i lr none = some (-1, mto, lr, mki, mbe, men, mwo) := rfl
theorem nxM_some (mto : Int32) (mki mbe men : Nat → Int32) (mwo : Nat → Int64) (i : Nat) (lr : Int32) (k e : Nat) (w : Int64) : nxM mto mki mbe men mwo i lr (some (k, e, w)) = (f_M_add mto mki mbe men mwo (nI k) (nI i) (nI e) (wM k w)).bind (fun o => some (nI e, o.1, lr, o.2.1, o.2.2.1, o.2.2.2.1, o.2.2.2.2)) := rfl
set_option maxRecDepth 20000 in
theorem pr_32 : ∀ k, k < 256 → (nI k < (32 : Int32) → prk k = false) ∧ ((126 : Int32) < nI k → prk k = false) ∧ (¬ nI k < (32 : Int32) → ¬ (126 : Int32) < nI k → prk k = true) := by decide +kernel
set_option maxRecDepth 20000 in
theorem M_isSign_k : ∀ k, k < 256 → f_M_isSign (nI k) = some (b01 (sgk k)) := by decide +kernel
section
variable {N : Nat} {B : Nat → Nat} {mle : Int32} {mli : Nat → Int32}
theorem M_isPlain (h : MR N B mle mli) {i : Nat} (hi : i < 2 ^ 31) : f_M_isPlain mle mli (nI i) = some (b01 (decide (i < N) && prk (B i))) := by
  have hN := h.1
  unfold f_M_isPlain
  rw [h.2.1]
  by_cases c : i < N
  · rw [if_neg (nI_ge c (by omega)), gi_nI (by omega) (by decide), nI_clamp hi, (h.2.2 i c).2, gi_nI (by omega) (by decide)]
    have hk := pr_32 _ (h.lt i c)
    by_cases d : nI (B i) < (32 : Int32)
    · rw [if_pos d, hk.1 d]; simp [b01]
    · rw [if_neg d]
      by_cases e : (126 : Int32) < nI (B i)
      · rw [if_pos e, hk.2.1 e]; simp [b01]
      · rw [if_neg e, hk.2.2 d e]; simp [c, b01]
  · rw [if_pos (nI_le (by omega) hi)]
    simp [c, b01]
theorem M_char (h : MR N B mle mli) {i q : Nat} (hi : i < 2 ^ 30) (hq : q < 256) (mlr : Int32) :
    (wdk N B i q = 0 → ∃ lr, f_M_character mle mlr mli (nI i) (nI q) = some (-1, lr)) ∧ (wdk N B i q ≠ 0 → f_M_character mle mlr mli (nI i) (nI q) = some (nI (i + wdk N B i q), nI (if wdk N B i q = 2 then esk (B (i + 1)) else B i))) := by
  have hN := h.1
  unfold f_M_character wdk
  rw [M_isPlain h (by omega), Option.bind_some]
  by_cases c : i < N ∧ prk (B i) = true
  · have hB := h.lt i c.1
    rw [if_neg (b01_ne (by simp [c.1, c.2])), gi_nI (by omega) (by decide), nI_clamp (by omega), (h.2.2 i c.1).2]
    have eq_ : (nI (B i) = nI q) ↔ B i = q := nI_lit hB hq
    have e92 : (nI (B i) = (92 : Int32)) ↔ B i = 92 := nI_lit hB (by decide)
    by_cases d : B i = q
    · rw [if_pos (eq_.mpr d), if_neg (show ¬ (i < N ∧ prk (B i) = true ∧ B i ≠ q) from fun z => z.2.2 d)]
      exact ⟨fun _ => ⟨_, rfl⟩, fun z => absurd rfl z⟩
    · rw [if_neg (fun z => d (eq_.mp z)), if_pos (show i < N ∧ prk (B i) = true ∧ B i ≠ q from ⟨c.1, c.2, d⟩), gi_nI (by omega) (by decide)]
      by_cases f : B i = 92
      · rw [if_pos (e92.mpr f), if_neg (show ¬ (B i ≠ 92) from fun z => z f), nI_1, M_isPlain h (by omega), Option.bind_some]
        by_cases g : i + 1 < N ∧ prk (B (i + 1)) = true
        · rw [if_neg (b01_ne (by simp [g.1, g.2])), if_pos g, gi_nI (by omega) (by decide), nI_clamp (by omega), (h.2.2 (i + 1) g.1).2]
          refine ⟨fun z => absurd z (by decide), fun _ => ?_⟩
          rw [if_pos rfl, show nI i + (2 : Int32) = nI (i + 2) from nI_add i 2]
          have hB1 := h.lt (i + 1) g.1
          have e110 : (nI (B (i + 1)) = (110 : Int32)) ↔ B (i + 1) = 110 := nI_lit hB1 (by decide)
          have e116 : (nI (B (i + 1)) = (116 : Int32)) ↔ B (i + 1) = 116 := nI_lit hB1 (by decide)
          have e48 : (nI (B (i + 1)) = (48 : Int32)) ↔ B (i + 1) = 48 := nI_lit hB1 (by decide)
          unfold esk
          by_cases c1 : B (i + 1) = 110
          · rw [if_pos (e110.mpr c1), if_pos c1]; rfl
          · rw [if_neg (fun z => c1 (e110.mp z)), if_neg c1]
            by_cases c2 : B (i + 1) = 116
            · rw [if_pos (e116.mpr c2), if_pos c2]; rfl
            · rw [if_neg (fun z => c2 (e116.mp z)), if_neg c2]
              by_cases c3 : B (i + 1) = 48
              · rw [if_pos (e48.mpr c3), if_pos c3]; rfl
              · rw [if_neg (fun z => c3 (e48.mp z)), if_neg c3]
        · rw [if_pos (b01_eq (by simpa using g)), if_neg g]
          exact ⟨fun _ => ⟨_, rfl⟩, fun z => absurd rfl z⟩
      · rw [if_neg (fun z => f (e92.mp z)), if_pos (show B i ≠ 92 from f), if_neg (by decide), nI_1]
        exact ⟨fun z => absurd z (by decide), fun _ => rfl⟩
  · rw [if_pos (b01_eq (by simpa using c)), if_neg (show ¬ (i < N ∧ prk (B i) = true ∧ B i ≠ q) from fun z => c ⟨z.1, z.2.1⟩)]
    exact ⟨fun _ => ⟨_, rfl⟩, fun z => absurd rfl z⟩
theorem wdk_q {N : Nat} {B : Nat → Nat} {i q : Nat} (h : B i = q) : wdk N B i q = 0 := by
  unfold wdk
  rw [if_neg (fun z => z.2.2 h)]
theorem wdk_out {N : Nat} {B : Nat → Nat} {i q : Nat} (h : ¬ i < N) : wdk N B i q = 0 := by
  unfold wdk
  rw [if_neg (fun z => h z.1)]
theorem M_text_l (h : MR N B mle mli) (mto : Int32) (mki mbe men : Nat → Int32) (mwo : Nat → Int64) (i : Nat) :
    ∀ n j mlr, j ≤ N → N - j + 1 < n → ∃ lr, f_M_next_l142 n mle mto mlr mli mki mbe men mwo (nI i) (nI j) = nxM mto mki mbe men mwo i lr (if eCf N B 34 (N + 1 - j) j < N ∧ B (eCf N B 34 (N + 1 - j) j) = 34 then some (3, eCf N B 34 (N + 1 - j) j + 1, 0) else none) := by
  have hN := h.1
  have hle := h.2.1
  intro n
  induction n with
  | zero => intro j mlr h1 h2; omega
  | succ n ih =>
    intro j mlr h1 h2
    unfold f_M_next_l142
    rw [if_neg (nI_pos (by omega)), hle, show N + 1 - j = (N - j) + 1 by omega]
    unfold eCf
    by_cases c : j < N
    · have hB := h.lt j c
      rw [if_neg (nI_ge c (by omega)), gi_nI (by omega) (by decide), nI_clamp (by omega), (h.2.2 j c).2]
      have e34 : (nI (B j) = (34 : Int32)) ↔ B j = 34 := nI_lit hB (by decide)
      by_cases d : B j = 34
      · rw [if_pos (e34.mpr d), if_pos (wdk_q d), if_pos ⟨c, d⟩]
        unfold f_M_next_l142_j176
        rw [if_neg (nI_pos (by omega)), if_pos (nI_lt c (by omega)), nI_1]
        exact ⟨mlr, rfl⟩
      · rw [if_neg (fun z => d (e34.mp z)), ← hle]
        have hch := M_char h (i := j) (q := 34) (by omega) (by decide) mlr
        by_cases e : wdk N B j 34 = 0
        · obtain ⟨lr, hlr⟩ := hch.1 e
          rw [show (34 : Int32) = nI 34 from rfl, hlr, Option.bind_some, if_pos e, if_neg (fun z => d z.2)]
          refine ⟨lr, ?_⟩
          cases n with
          | zero => omega
          | succ n =>
            unfold f_M_next_l142
            rw [if_pos (show (-1 : Int32) < 0 by decide)]
            rfl
        · have hin := wdk_in e
          rw [show (34 : Int32) = nI 34 from rfl, hch.2 e, Option.bind_some, if_neg e]
          obtain ⟨lr, hlr⟩ := ih (j + wdk N B j 34) (nI (if wdk N B j 34 = 2 then esk (B (j + 1)) else B j)) hin (by omega)
          refine ⟨lr, ?_⟩
          rw [hlr, eCf_fuel N B 34 (N + 1 - (j + wdk N B j 34)) (N - j) (j + wdk N B j 34) (by omega) (by omega)]
    · have hj : j = N := by omega
      rw [if_pos (nI_le (by omega) (by omega)), if_pos (wdk_out c), if_neg (fun z => c z.1)]
      unfold f_M_next_l142_j176
      rw [if_neg (nI_pos (by omega)), if_neg (nI_nlt (by omega) (by omega))]
      exact ⟨mlr, rfl⟩
theorem M_name_l (h : MR N B mle mli) (mto : Int32) (mki mbe men : Nat → Int32) (mwo : Nat → Int64) (i : Nat) (mlr : Int32) :
    ∀ n j, i ≤ j → j ≤ N → N - j < n → f_M_next_l29 n mle mto mlr mli mki mbe men mwo (nI i) (nI j) = nxM mto mki mbe men mwo i mlr (if eNf B (N - j) j - i ≤ 63 then some (1, eNf B (N - j) j, 0) else none) := by
  have hN := h.1
  intro n
  induction n with
  | zero => intro j h0 h1 h2; omega
  | succ n ih =>
    intro j h0 h1 h2
    unfold f_M_next_l29
    rw [M_isPart h (by omega), Option.bind_some]
    by_cases c : j < N
    · rw [show N - j = (N - (j + 1)) + 1 by omega]
      unfold eNf
      by_cases d : ptk (B j) = true
      · rw [if_neg (b01_ne (by simp [c, d])), if_pos d, nI_1]
        exact ih (j + 1) (by omega) (by omega) (by omega)
      · rw [if_pos (b01_eq (by simp [d])), if_neg d, pk_sub h0]
        by_cases e : j - i ≤ 63
        · rw [if_pos (show nI (j - i) ≤ (63 : Int32) from nI_le (b := 63) e (by decide)), if_pos e]; rfl
        · rw [if_neg (show ¬ nI (j - i) ≤ (63 : Int32) from fun z => e ((nI_leI (b := 63) (by omega) (by decide)).mp z)), if_neg e]; rfl
    · rw [if_pos (b01_eq (by simp [c])), pk_sub h0, show N - j = 0 by omega]
      unfold eNf
      by_cases e : j - i ≤ 63
      · rw [if_pos (show nI (j - i) ≤ (63 : Int32) from nI_le (b := 63) e (by decide)), if_pos e]; rfl
      · rw [if_neg (show ¬ nI (j - i) ≤ (63 : Int32) from fun z => e ((nI_leI (b := 63) (by omega) (by decide)).mp z)), if_neg e]; rfl
set_option maxRecDepth 20000 in
theorem wM_sg : ∀ k, k < 256 → sgk k = true → wM 4 (nI k).toInt64 = (nI k).toInt64 := by decide +kernel
theorem M_next (h : MR N B mle mli) {i : Nat} (hi : i < N) (mto mlr : Int32) (mki mbe men : Nat → Int32) (mwo : Nat → Int64) :
    ∃ lr, f_M_next mle mto mlr mli mki mbe men mwo (nI i) = nxM mto mki mbe men mwo i lr (tok N B i) := by
  have hN := h.1
  have hB := h.lt i hi
  unfold f_M_next tok
  rw [gi_nI (by omega) (by decide), nI_clamp (by omega), (h.2.2 i hi).2, M_isDigit_k _ hB, Option.bind_some]
  by_cases c : dgk (B i) = true
  · rw [if_neg (b01_ne c), if_pos c, M_number h hi]
    refine ⟨mlr, ?_⟩
    cases ht : tNum N B i with
    | none => rfl
    | some t =>
      rw [oc_some, Option.bind_some, nxM_some]
      show _ = Option.bind (f_M_add mto mki mbe men mwo 2 (nI i) (nI t.1) t.2) _
      cases f_M_add mto mki mbe men mwo 2 (nI i) (nI t.1) t.2 <;> rfl
  · rw [if_pos (b01_eq c), if_neg c, M_isLetter_k _ hB, Option.bind_some]
    by_cases d : ptk (B i) = true
    · rw [if_neg (b01_ne (by simp [c, d])), if_pos d, M_name_l h mto mki mbe men mwo i mlr FU i (by omega) (by omega) (by unfold FU; omega)]
      exact ⟨mlr, rfl⟩
    · rw [if_pos (b01_eq (by simp [d])), if_neg d]
      have e39 : nI (B i) = (39 : Int32) ↔ B i = 39 := nI_lit hB (by decide)
      have e34 : nI (B i) = (34 : Int32) ↔ B i = 34 := nI_lit hB (by decide)
      have e60 : nI (B i) = (60 : Int32) ↔ B i = 60 := nI_lit hB (by decide)
      have e62 : nI (B i) = (62 : Int32) ↔ B i = 62 := nI_lit hB (by decide)
      by_cases e : B i = 39
      · rw [if_pos (e39.mpr e), if_pos e, nI_1]
        have hch := M_char h (i := i + 1) (q := 39) (by omega) (by decide) mlr
        unfold tChar
        by_cases f : wdk N B (i + 1) 39 = 0
        · obtain ⟨lr, hlr⟩ := hch.1 f
          rw [show (39 : Int32) = nI 39 from rfl, hlr, Option.bind_some, if_pos (show (-1 : Int32) < 0 by decide), if_pos f]
          exact ⟨lr, rfl⟩
        · have hin := wdk_in f
          have hc2 : f_M_character mle mlr mli (nI (i + 1)) (nI 39) = some (nI (i + 1 + wdk N B (i + 1) 39), nI (if wdk N B (i + 1) 39 = 2 then esk (B (i + 2)) else B (i + 1))) := hch.2 f
          generalize nI (if wdk N B (i + 1) 39 = 2 then esk (B (i + 2)) else B (i + 1)) = lr at hc2 ⊢
          rw [show (39 : Int32) = nI 39 from rfl, hc2, Option.bind_some, if_neg f]
          refine ⟨lr, ?_⟩
          rw [if_neg (nI_pos (by omega))]
          by_cases g : i + 1 + wdk N B (i + 1) 39 < N
          · have hB2 := h.lt _ g
            rw [h.2.1, if_neg (nI_ge g (by omega)), gi_nI (by omega) (by decide), nI_clamp (by omega), (h.2.2 _ g).2]
            have e39 : nI (B (i + 1 + wdk N B (i + 1) 39)) = nI 39 ↔ B (i + 1 + wdk N B (i + 1) 39) = 39 := nI_lit hB2 (by decide)
            by_cases k : B (i + 1 + wdk N B (i + 1) 39) = 39
            · rw [if_pos (e39.mpr k), ← h.2.1, nI_1, M_isPart h (by omega), Option.bind_some, show i + 1 + wdk N B (i + 1) 39 + 1 = i + 2 + wdk N B (i + 1) 39 by omega]
              by_cases m : i + 2 + wdk N B (i + 1) 39 < N ∧ ptk (B (i + 2 + wdk N B (i + 1) 39)) = true
              · rw [if_neg (b01_ne (by simp [m.1, m.2])), if_neg (fun z => z.2 m)]; rfl
              · rw [if_pos (b01_eq (by simpa using m)), if_pos (show (i + 1 + wdk N B (i + 1) 39 < N ∧ B (i + 1 + wdk N B (i + 1) 39) = 39) ∧ ¬ (i + 2 + wdk N B (i + 1) 39 < N ∧ ptk (B (i + 2 + wdk N B (i + 1) 39)) = true) from ⟨⟨g, k⟩, m⟩)]
                rfl
            · rw [if_neg (fun z => k (e39.mp z)), if_neg (fun z => k z.1.2)]; rfl
          · rw [h.2.1, if_pos (nI_le (by omega) (by omega)), if_neg (fun z => g z.1.1)]; rfl
      · rw [if_neg (fun z => e (e39.mp z)), if_neg e]
        by_cases f : B i = 34
        · rw [if_pos (e34.mpr f), if_pos f, nI_1]
          obtain ⟨lr, hlr⟩ := M_text_l h mto mki mbe men mwo i FU (i + 1) mlr (by omega) (by unfold FU; omega)
          refine ⟨lr, ?_⟩
          rw [hlr, show N + 1 - (i + 1) = N - i by omega]
          rfl
        · rw [if_neg (fun z => f (e34.mp z)), if_neg f]
          refine ⟨mlr, ?_⟩
          have j266 : f_M_next_j266 mle mto mlr mli mki mbe men mwo (nI i) (nI (B i)) = nxM mto mki mbe men mwo i mlr (if sgk (B i) = true then some (4, i + 1, (nI (B i)).toInt64) else none) := by
            unfold f_M_next_j266
            rw [M_isSign_k _ hB, Option.bind_some]
            by_cases s : sgk (B i) = true
            · rw [if_neg (b01_ne s), if_pos s, nxM_some, wM_sg _ hB s, nI_1]; rfl
            · rw [if_pos (b01_eq s), if_neg s]; rfl
          have j216 : (B i = 60 ∨ B i = 62) → f_M_next_j216 mle mto mlr mli mki mbe men mwo (nI i) (nI (B i)) = nxM mto mki mbe men mwo i mlr (tSign N B i) := by
            intro c6
            have hs : ¬ sgk (B i) = true := by rcases c6 with c6 | c6 <;> rw [c6] <;> decide
            unfold f_M_next_j216 tSign
            rw [j266, if_neg hs, if_neg hs, nI_1, h.2.1]
            by_cases g : i + 1 < N
            · rw [if_neg (nI_ge g (by omega)), gi_nI (by omega) (by decide), nI_clamp (by omega), (h.2.2 _ g).2]
              have eB : nI (B (i + 1)) = nI (B i) ↔ B (i + 1) = B i := nI_lit (h.lt _ g) hB
              by_cases k : B (i + 1) = B i
              · rw [if_pos (eB.mpr k), if_pos (show (B i = 60 ∨ B i = 62) ∧ i + 1 < N ∧ B (i + 1) = B i from ⟨c6, g, k⟩), show nI i + (2 : Int32) = nI (i + 2) from nI_add i 2, nxM_some]
                rcases c6 with c6 | c6
                · rw [if_pos (e60.mpr c6), c6]; rfl
                · rw [if_neg (show ¬ nI (B i) = (60 : Int32) by rw [c6]; decide), c6]; rfl
              · rw [if_neg (fun z => k (eB.mp z)), if_neg (fun z => k z.2.2)]
            · rw [if_pos (nI_le (by omega) (by omega)), if_neg (fun z => g z.2.1)]
          by_cases g60 : B i = 60
          · rw [if_pos (e60.mpr g60)]; exact j216 (Or.inl g60)
          · rw [if_neg (fun z => g60 (e60.mp z))]
            by_cases g62 : B i = 62
            · rw [if_pos (e62.mpr g62)]; exact j216 (Or.inr g62)
            · rw [if_neg (fun z => g62 (e62.mp z)), j266]
              unfold tSign
              rw [if_neg (show ¬ ((B i = 60 ∨ B i = 62) ∧ i + 1 < N ∧ B (i + 1) = B i) from fun z => z.1.elim g60 g62)]
end
