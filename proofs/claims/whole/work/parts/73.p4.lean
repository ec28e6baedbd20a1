/-! The reference's number, to its end -/
def mEnd (mle mto : Int32) (mli mki mbe men : Nat → Int32) (mwo : Nat → Int64) (x1 x4 x5 : Int32) (x6 : Int64) : Option (Int32 × Int32 × (Nat → Int32) × (Nat → Int32) × (Nat → Int32) × (Nat → Int64)) :=
  if x4 = x5 then some ((-1 : Int32), mto, mki, mbe, men, mwo) else (f_M_isPart mle mli x4).bind (fun o => if o = (0 : Int32) then (f_M_add mto mki mbe men mwo (2 : Int32) x1 x4 x6).bind (fun o => some (x4, o.1, o.2.1, o.2.2.1, o.2.2.2.1, o.2.2.2.2)) else some ((-1 : Int32), mto, mki, mbe, men, mwo))
section
variable {N : Nat} {B : Nat → Nat} {mle : Int32} {mli : Nat → Int32}
theorem M_j197_0 (h : MR N B mle mli) {b : Nat} {mto : Int32} {mki mbe men : Nat → Int32} {mwo : Nat → Int64} {x1 x5 : Int32} {i : Nat} {v : Int64} (hi : i < N) (n : Nat) :
    f_M_number_l85_j197 (f_M_number_l85 n) mle mto mli mki mbe men mwo x1 (nI b) (nI i) x5 v 0 = f_M_number_l85 n mle mto mli mki mbe men mwo x1 (nI b) (nI (i + 1)) x5 (nxk v b (dvk (B i))) := by
  have hN := h.1
  unfold f_M_number_l85_j197
  rw [if_pos rfl, gi_nI (by omega) (by decide), nI_clamp (by omega), (h.2.2 i hi).2, M_digit_k _ (h.2.2 i hi).1, Option.bind_some, nI_1]
  rfl
theorem M_j197_1 {k : Int32 → Int32 → (Nat → Int32) → (Nat → Int32) → (Nat → Int32) → (Nat → Int32) → (Nat → Int64) → Int32 → Int32 → Int32 → Int32 → Int64 → Option (Int32 × Int32 × (Nat → Int32) × (Nat → Int32) × (Nat → Int32) × (Nat → Int64))} {mto : Int32} {mki mbe men : Nat → Int32} {mwo : Nat → Int64} {x1 x3 x4 x5 : Int32} {v : Int64} :
    f_M_number_l85_j197 k mle mto mli mki mbe men mwo x1 x3 x4 x5 v 1 = some ((-1 : Int32), mto, mki, mbe, men, mwo) := rfl
theorem M_number_l (h : MR N B mle mli) {b : Nat} (hb : bsk b) (mto : Int32) (mki mbe men : Nat → Int32) (mwo : Nat → Int64) (x1 x5 : Int32) :
    ∀ n i v, i ≤ N → N - i < n → f_M_number_l85 n mle mto mli mki mbe men mwo x1 (nI b) (nI i) x5 v = oc (rnf B b (N - i) i v) (some ((-1 : Int32), mto, mki, mbe, men, mwo)) (fun p => mEnd mle mto mli mki mbe men mwo x1 (nI p.1) x5 p.2) := by
  have hN := h.1
  have hmle := h.2.1
  intro n
  induction n with
  | zero => intro i v h1 h2; omega
  | succ n ih =>
    intro i v h1 h2
    unfold f_M_number_l85
    by_cases c : i < N
    · have hB := (h.2.2 i c).1
      have hd := dvk_le _ hB
      have hb9 : b < 2 ^ 31 := by rcases hb with rfl | rfl | rfl <;> decide
      have step : f_M_number_l85_j197 (f_M_number_l85 n) mle mto mli mki mbe men mwo x1 (nI b) (nI i) x5 v 0 = oc (rnf B b (N - (i + 1)) (i + 1) (nxk v b (dvk (B i)))) (some ((-1 : Int32), mto, mki, mbe, men, mwo)) (fun p => mEnd mle mto mli mki mbe men mwo x1 (nI p.1) x5 p.2) := by
        rw [M_j197_0 h c]
        exact ih (i + 1) _ (by omega) (by omega)
      rw [hmle, if_neg (nI_ge c (by omega)), ← hmle, gi_nI (by omega) (by decide), nI_clamp (by omega), (h.2.2 i c).2, M_digit_k _ hB, Option.bind_some]
      rw [show N - i = (N - (i + 1)) + 1 by omega]
      unfold rnf
      by_cases d : dvk (B i) < b
      · rw [if_neg (nI_ge d hb9), if_pos d]
        rcases hb with rfl | rfl | rfl
        · rw [if_neg (show ¬ nI 2 = (10 : Int32) by decide), if_neg (show ¬ nI 2 = (16 : Int32) by decide), room_2]
          by_cases e : 0 ≤ v
          · rw [if_pos ((lg_cmp_ge v 0).mpr e), if_pos (decide_eq_true e)]
            exact step
          · rw [if_neg (fun z => e ((lg_cmp_ge v 0).mp z)), if_neg (fun z => e (of_decide_eq_true z)), M_j197_1]
            rfl
        · rw [if_pos (show nI 10 = (10 : Int32) by decide), room_10 v _ (by omega)]
          by_cases e : v < 0
          · rw [if_pos ((lg_cmp_lt v 0).mpr e), if_neg (by
              have : ¬ (0 : Int64) ≤ v := Int64.not_le.mpr e
              simp [this])]
            rfl
          · have e' : (0 : Int64) ≤ v := Int64.not_lt.mp e
            rw [if_neg (fun z => e ((lg_cmp_lt v 0).mp z))]
            by_cases f : 1844674407370955161 < v
            · rw [if_pos ((lg_cmp_gt v _).mpr f), if_neg (by
                have h7 : ¬ v < 1844674407370955161 := Int64.not_lt.mpr (Int64.le_of_lt f)
                have h8 : ¬ v = 1844674407370955161 := fun z => by rw [z] at f; exact absurd f (by decide)
                simp [h7, h8])]
              rfl
            · rw [if_neg (fun z => f ((lg_cmp_gt v _).mp z))]
              by_cases g : v = 1844674407370955161
              · rw [if_pos ((lg_cmp_eq v _).mpr g), gi_nI (by omega) (by decide), Option.bind_some]
                have hlt : ¬ v < 1844674407370955161 := by rw [g]; decide
                by_cases k : dvk (B i) ≤ 5
                · rw [if_pos (show nI (dvk (B i)) ≤ (5 : Int32) from nI_le (b := 5) k (by decide)), if_pos (by simp [e', g, k])]
                  exact step
                · rw [if_neg (show ¬ nI (dvk (B i)) ≤ (5 : Int32) from fun z => k ((nI_leI (b := 5) (by omega) (by decide)).mp z)), if_neg (by simp [hlt, k])]
                  rfl
              · rw [if_neg (fun z => g ((lg_cmp_eq v _).mp z))]
                have hlt : v < 1844674407370955161 := by
                  have h7 := Int64.not_lt.mp f
                  rcases Int64.lt_or_eq_of_le h7 with q | q
                  · exact q
                  · exact absurd q g
                rw [if_pos (by simp [e', hlt])]
                exact step
        · rw [if_neg (show ¬ nI 16 = (10 : Int32) by decide), if_pos (show nI 16 = (16 : Int32) by decide), room_16]
          generalize hx : (v.toUInt64 >>> ((60 : Int32).toInt64.toUInt64 &&& Int64.toUInt64 63)).toInt64 = x
          by_cases e : x = 0
          · rw [if_pos ((lg_cmp_eq x 0).mpr e), if_pos (decide_eq_true e)]
            exact step
          · rw [if_neg (fun z => e ((lg_cmp_eq x 0).mp z)), if_neg (fun z => e (of_decide_eq_true z)), M_j197_1]
            rfl
      · rw [if_pos (nI_le (by omega) (by omega)), if_neg d]
        rfl
    · rw [hmle, if_pos (nI_le (by omega) (by omega)), show N - i = 0 by omega, ← hmle]
      rfl
end
