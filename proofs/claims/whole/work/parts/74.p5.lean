/-! Both scans of a number agree: e is where the name's characters end -/
theorem rnf_bound (B : Nat → Nat) (b : Nat) : ∀ k i v p w, rnf B b k i v = some (p, w) → i ≤ p ∧ p ≤ i + k := by
  intro k
  induction k with
  | zero => intro i v p w h; unfold rnf at h; cases h; omega
  | succ k ih =>
    intro i v p w h
    unfold rnf at h
    by_cases c : dvk (B i) < b
    · rw [if_pos c] at h
      by_cases d : rmk v b (dvk (B i)) = true
      · rw [if_pos d] at h; have := ih _ _ _ _ h; omega
      · rw [if_neg d] at h; cases h
    · rw [if_neg c] at h; cases h; omega
theorem num_agree {B : Nat → Nat} {N b : Nat} (hb : b ≤ 16) (hB : ∀ i, i < N → B i < 256) : ∀ k i e v, e - i = k → i ≤ e → e ≤ N → (∀ j, i ≤ j → j < e → ptk (B j) = true) → (e < N → ptk (B e) = false) →
    numf B b (e - i) i v = (rnf B b (N - i) i v).bind (fun q => if q.1 = e then some q.2 else none) ∧ ∀ q, rnf B b (N - i) i v = some q → q.1 ≤ e := by
  intro k
  induction k with
  | zero =>
    intro i e v h1 h2 h3 h4 h5
    have he : i = e := by omega
    subst he
    rw [show i - i = 0 by omega]
    by_cases c : i < N
    · have hd : ¬ dvk (B i) < b := fun z => by
        have := dvk_pt _ (hB i c) (by omega)
        rw [h5 c] at this
        cases this
      rw [show N - i = (N - (i + 1)) + 1 by omega]
      unfold rnf numf
      rw [if_neg hd]
      refine ⟨?_, fun q hq => ?_⟩
      · simp
      · cases hq; exact Nat.le_refl _
    · rw [show N - i = 0 by omega]
      unfold rnf numf
      refine ⟨?_, fun q hq => ?_⟩
      · simp
      · cases hq; exact Nat.le_refl _
  | succ k ih =>
    intro i e v h1 h2 h3 h4 h5
    have hi : i < e := by omega
    rw [show e - i = (e - (i + 1)) + 1 by omega, show N - i = (N - (i + 1)) + 1 by omega]
    unfold rnf numf
    by_cases c : dvk (B i) < b
    · rw [if_pos c, if_pos c]
      by_cases d : rmk v b (dvk (B i)) = true
      · rw [if_pos d, if_pos d]
        exact ih (i + 1) e _ (by omega) (by omega) h3 (fun j a b => h4 j (by omega) b) h5
      · rw [if_neg d, if_neg d]
        exact ⟨rfl, fun q hq => by cases hq⟩
    · rw [if_neg c, if_neg c]
      refine ⟨?_, fun q hq => ?_⟩
      · show none = if i = e then some v else none
        rw [if_neg (by omega)]
      · cases hq; exact h2
/-- the name's characters up to their end -/
theorem eNf_all (B : Nat → Nat) : ∀ k i j, i ≤ j → j < eNf B k i → ptk (B j) = true := by
  intro k
  induction k with
  | zero => intro i j h1 h2; unfold eNf at h2; omega
  | succ k ih =>
    intro i j h1 h2
    unfold eNf at h2
    by_cases c : ptk (B i) = true
    · rw [if_pos c] at h2
      by_cases d : i = j
      · rw [← d]; exact c
      · exact ih (i + 1) j (by omega) h2
    · rw [if_neg c] at h2; omega
theorem eNf_stop (B : Nat → Nat) : ∀ k i, eNf B k i < i + k → ptk (B (eNf B k i)) = false := by
  intro k
  induction k with
  | zero => intro i h; unfold eNf at h; omega
  | succ k ih =>
    intro i h
    unfold eNf at h ⊢
    by_cases c : ptk (B i) = true
    · rw [if_pos c] at h ⊢
      exact ih (i + 1) (by omega)
    · rw [if_neg c]
      cases hp : ptk (B i) with
      | true => exact absurd hp c
      | false => rfl
