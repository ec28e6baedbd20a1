/-! THE STATE of both sides -/
theorem nsg_app {ns : List NmR} {r x : NmR} {z : Nat} (h : nsg ns z = some x) : nsg (ns ++ [r]) z = some x := by
  unfold nsg at h ⊢
  rw [List.find?_append, h]; rfl
theorem nsg_new {ns : List NmR} {r : NmR} (h : ∀ q ∈ ns, q.1 ≠ r.1) : nsg (ns ++ [r]) r.1 = some r := by
  unfold nsg
  have h1 : ns.find? (fun q => q.1 == r.1) = none := List.find?_eq_none.mpr (fun q hq => by simp [h q hq])
  rw [List.find?_append, h1]
  simp
theorem KR_new {nl : List Nm} {kn : Int32} {kq : Nat → Option Nat} {ns : List NmR} (hKR : KR nl kn kq ns) (hl : nl.length < 256) {m : Nm} (hg : NmG m) {r : NmR} (hf : ∀ q ∈ ns, q.1 ≠ r.1) (hr : NR r m) : KR (nl ++ [m]) (kn + 1) (va_up kq kn.toNatClampNeg (some r.1)) (ns ++ [r]) := by
  obtain ⟨h1, h2, h3, h4⟩ := hKR
  refine ⟨by rw [List.length_append]; show nl.length + 1 ≤ 256; omega, by rw [h2, nI_1, List.length_append]; rfl, fun x hx => ?_, fun j x hj => ?_⟩
  · rcases List.mem_append.mp hx with k | k
    · exact h3 x k
    · rw [List.mem_singleton.mp k]; exact hg
  · rw [h2, nI_clamp (by omega)]
    rcases app_get hj with ⟨q1, q2⟩ | ⟨q1, q2⟩
    · obtain ⟨z, y, k1, k2, k3⟩ := h4 j x q1
      exact ⟨z, y, by rw [va_up_ne _ _ q2]; exact k1, nsg_app k2, k3⟩
    · rw [q1, q2]
      exact ⟨r.1, r, va_up_self _ _ _, nsg_new hf, hr⟩
theorem NR_new {N : Nat} {B : Nat → Nat} {ln : Int32} {lb : Nat → Int32} (hL : LR N B ln lb) {b n : Nat} (h : b + n ≤ N) (aZ aA : Nat) {bz st : Int32} {wv : Int64} {pv : Int32} (h1 : bz = if st = -1 then 1 else 0) (h2 : pv = whr st) : NR (aZ, aA, n, cpB lb b n, bz, wv, pv) (n, fun i => B (b + i), st, wv) := by
  refine ⟨rfl, fun i hi => ?_, h1, rfl, h2⟩
  have hi : i < n := hi
  show cpB lb b n i &&& 255 = nI (B (b + i))
  unfold cpB va_cpy
  rw [if_pos (by omega), Nat.sub_zero]
  exact (hL.2.2 (b + i) (by omega)).2
/-- in a world whose cells are apart a new name's address is new -/
theorem D_fresh {A : Nat → Prop} {X : va_W} {cB : ClassId} {ns : List NmR} {r : NmR} (h : va_D A (X ++ np cB (ns ++ [r]))) : ∀ q ∈ ns, q.1 ≠ r.1 := by
  intro q hq e
  rw [np_app, ← List.append_assoc] at h
  have h0 : (q.1, nmE q) ∈ np cB ns := List.mem_flatMap.mpr ⟨q, hq, List.mem_cons_self⟩
  have h1 : (q.1, nmE q) ∈ X ++ np cB ns := List.mem_append_right _ h0
  obtain ⟨i, hi, hi2⟩ := List.getElem_of_mem h1
  have g1 : ((X ++ np cB ns) ++ [(r.1, nmE r), (r.2.1, ltE cB r)])[i]? = some (q.1, nmE q) := by
    rw [List.getElem?_append_left hi, List.getElem?_eq_getElem hi, hi2]
  have g2 : ((X ++ np cB ns) ++ [(r.1, nmE r), (r.2.1, ltE cB r)])[(X ++ np cB ns).length]? = some (r.1, nmE r) := by
    rw [List.getElem?_append_right (Nat.le_refl _), Nat.sub_self]; rfl
  have := h.1 _ _ _ _ g1 g2 e
  omega
def SR (k : Nat) (rf : Int32) (rc : Int64) (rp rt ln : Int32) (lb : Nat → Int32) (tn : Int32) (tk tb te : Nat → Int32) (tw : Nat → Int64) (kn kp : Int32) (kq : Nat → Option Nat) (ns : List NmR)
    (mle mnm msp mpl mto mfa mlp mlm : Int32) (mlv : Int64) (mli mlt mna mns mst : Nat → Int32) (mco : Nat → Int64) (mki mbe men : Nat → Int32) (mwo : Nat → Int64) : Prop :=
  ∃ N B tks nl pc N', LR N B ln lb ∧ MR N B mle mli ∧ (∀ i, fits .byte (.int (lb i)) = true) ∧ TR tks tn tk tb te tw ∧ TM tks mto mki mbe men mwo ∧ TG N' tks ∧ KR nl kn kq ns ∧ KM nl mnm msp mlt mna mns mst mco ∧ kp = mpl ∧ mpl = nI pc ∧ pc ≤ nl.length ∧ rf = mfa ∧ rc = mlv ∧ rp = mlp ∧ rt = mlm ∧ 2 * nl.length + (if N = 0 then 0 else 1) ≤ k
section
variable {k : Nat} {rf : Int32} {rc : Int64} {rp rt ln : Int32} {lb : Nat → Int32} {tn : Int32} {tk tb te : Nat → Int32} {tw : Nat → Int64} {kn kp : Int32} {kq : Nat → Option Nat} {ns : List NmR}
variable {mle mnm msp mpl mto mfa mlp mlm : Int32} {mlv : Int64} {mli mlt mna mns mst : Nat → Int32} {mco : Nat → Int64} {mki mbe men : Nat → Int32} {mwo : Nat → Int64}
theorem SR.later (h : SR k rf rc rp rt ln lb tn tk tb te tw kn kp kq ns mle mnm msp mpl mto mfa mlp mlm mlv mli mlt mna mns mst mco mki mbe men mwo) : SR (k + 1) rf rc rp rt ln lb tn tk tb te tw kn kp kq ns mle mnm msp mpl mto mfa mlp mlm mlv mli mlt mna mns mst mco mki mbe men mwo := by
  obtain ⟨N, B, tks, nl, pc, N', a1, a2, a3, a4, a5, a6, a7, a8, a9, b1, b2, b3, b4, b5, b6, b7⟩ := h
  exact ⟨N, B, tks, nl, pc, N', a1, a2, a3, a4, a5, a6, a7, a8, a9, b1, b2, b3, b4, b5, b6, by omega⟩
theorem S_type (h : SR k rf rc rp rt ln lb tn tk tb te tw kn kp kq ns mle mnm msp mpl mto mfa mlp mlm mlv mli mlt mna mns mst mco mki mbe men mwo) (mth : Int32) (x : Int64) (n : Int32) :
    ∃ r ln' lb' mle' mli', f_R_type ln lb x n = some (r, ln', lb') ∧ f_M_type mth mle mli x n = some (r, 0, mle', mli') ∧ SR (k + 1) rf rc rp rt ln' lb' tn tk tb te tw kn kp kq ns mle' mnm msp mpl mto mfa mlp mlm mlv mli' mlt mna mns mst mco mki mbe men mwo := by
  obtain ⟨N, B, tks, nl, pc, N', a1, a2, a3, a4, a5, a6, a7, a8, a9, b1, b2, b3, b4, b5, b6, b7⟩ := h
  obtain ⟨r, N2, B2, ln', lb', mle', mli', c1, c2, c3, c4, c5⟩ := type_both a1 a2 a3 mth x n
  exact ⟨r, ln', lb', mle', mli', c1, c2, N2, B2, tks, nl, pc, N', c3, c4, c5, a4, a5, a6, a7, a8, a9, b1, b2, b3, b4, b5, b6, by split <;> split at b7 <;> omega⟩
theorem tk_w : ∀ c, c < 256 → ((nI c).toInt64 &&& 2147483647).toInt32 = nI c ∧ (lg_cmp (wM 4 (nI c).toInt64) 256 = 0 ↔ c = 60) ∧ (lg_cmp (wM 4 (nI c).toInt64) 257 = 0 ↔ c = 62) ∧ (c ≠ 60 → c ≠ 62 → (wM 4 (nI c).toInt64).toInt32 = nI c) := by decide +kernel
theorem S_token (h : SR k rf rc rp rt ln lb tn tk tb te tw kn kp kq ns mle mnm msp mpl mto mfa mlp mlm mlv mli mlt mna mns mst mco mki mbe men mwo) (mth x y : Int32) :
    ∃ r, f_R_token tn tk tb te tw x y = some r ∧ f_M_token mth mto mki mbe men mwo x y = some (r, 0) := by
  obtain ⟨N, B, tks, nl, pc, N', -, -, -, a4, a5, a6, -⟩ := h
  have hl := a6.2.1
  have hN := a6.1
  unfold f_R_token f_M_token f_T_kindOf f_T_beginOf f_T_endOf f_T_lowWorthOf f_T_has
  by_cases c0 : x < 0
  · simp only [c0, ↓reduceIte, Option.bind_some, ite_self]
    exact ⟨-1, rfl, rfl⟩
  · rw [a4.1, a5.1]
    simp only [c0, ↓reduceIte]
    by_cases c1 : nI tks.length ≤ x
    · simp only [c1, ↓reduceIte, Option.bind_some, ite_self]
      exact ⟨-1, rfl, rfl⟩
    · obtain ⟨j, j1, j2⟩ := nI_of c0
      have hj : j < tks.length := by
        rcases Nat.lt_or_ge j tks.length with q | q
        · exact q
        · exact absurd (by rw [j2]; exact nI_le q j1) c1
      have ht := List.getElem?_eq_getElem hj
      obtain ⟨p1, p2, p3, p4⟩ := a4.2 j _ ht
      obtain ⟨q1, q2, q3, q4⟩ := a5.2 j _ ht
      have hgt := a6.2.2 tks[j] (List.getElem_mem hj)
      generalize tks[j] = t at ht p1 p2 p3 p4 q1 q2 q3 q4 hgt
      have g1 : ∀ (α : Type) (z : Option α), gi x 1024 z = z := fun α z => by rw [j2]; exact gi_nI (by omega) (by decide)
      have g2 : ∀ (α : Type) (z : Option α), gi x 1100 z = z := fun α z => by rw [j2]; exact gi_nI (by omega) (by decide)
      have cx : x.toNatClampNeg = j := by rw [j2]; exact nI_clamp j1
      have one : ¬ (1 : Int32) = 0 := by decide
      simp only [c1, ↓reduceIte, Option.bind_some, one, g1, g2, cx, p1, p2, p3, p4, q1, q2, q3, q4]
      have k4 := hgt.k
      by_cases y0 : y = 0
      · rw [y0]; exact ⟨nI t.1, rfl, rfl⟩
      · by_cases y1 : y = 1
        · rw [y1]; exact ⟨nI t.2.1, rfl, rfl⟩
        · by_cases y2 : y = 2
          · rw [y2]; exact ⟨nI t.2.2.1, rfl, rfl⟩
          · by_cases y3 : y = 3
            · have w3 : ¬ (3 : Int32) = 0 := by decide
              have w31 : ¬ (3 : Int32) = 1 := by decide
              have w32 : ¬ (3 : Int32) = 2 := by decide
              have w33 : ¬ (3 : Int32) < 0 := by decide
              have w34 : (3 : Int32) ≤ 3 := by decide
              rw [y3]
              simp only [w3, w31, w32, w33, w34, ↓reduceIte]
              refine ⟨_, rfl, ?_⟩
              obtain ⟨-, -, g3⟩ := hgt
              rcases g3 with ⟨e, z, -⟩ | e | ⟨e, z⟩ | ⟨e, c, z, hc, -⟩
              · have n4 : ¬ nI 1 = (4 : Int32) := by decide
                have n2 : ¬ nI 1 = (2 : Int32) := by decide
                rw [e, z, if_neg n4, if_neg n2]; rfl
              · have n4 : ¬ nI 2 = (4 : Int32) := by decide
                rw [e, if_neg n4, if_pos (show nI 2 = (2 : Int32) from rfl)]; rfl
              · have n4 : ¬ nI 3 = (4 : Int32) := by decide
                have n2 : ¬ nI 3 = (2 : Int32) := by decide
                rw [e, z, if_neg n4, if_neg n2]; rfl
              · obtain ⟨t1, t2, t3, t4⟩ := tk_w c hc
                rw [e, z, if_pos (show nI 4 = (4 : Int32) from rfl), t1]
                by_cases d : c = 60
                · rw [if_pos (t2.mpr d), d]; rfl
                · rw [if_neg (fun q => d (t2.mp q))]
                  by_cases d' : c = 62
                  · rw [if_pos (t3.mpr d'), d']; rfl
                  · rw [if_neg (fun q => d' (t3.mp q)), t4 d d']
            · rw [if_neg y0, if_neg y1, if_neg y2, if_neg y3]
              by_cases n0 : y < 0
              · rw [if_pos n0]; exact ⟨-1, rfl, rfl⟩
              · rw [if_neg n0]
                have n3 : ¬ y ≤ 3 := by
                  intro q
                  obtain ⟨i, i1, i2⟩ := nI_of2 (M := 3) (n := 3) (x := y) (by decide) n0 q
                  rcases (show i = 0 ∨ i = 1 ∨ i = 2 ∨ i = 3 by omega) with z | z | z | z
                  · exact y0 (by rw [i2, z]; rfl)
                  · exact y1 (by rw [i2, z]; rfl)
                  · exact y2 (by rw [i2, z]; rfl)
                  · exact y3 (by rw [i2, z]; rfl)
                rw [if_neg n3]; exact ⟨-1, rfl, rfl⟩
theorem S_side (h : SR k rf rc rp rt ln lb tn tk tb te tw kn kp kq ns mle mnm msp mpl mto mfa mlp mlm mlv mli mlt mna mns mst mco mki mbe men mwo) (mth x : Int32) : ∃ r, f_R_side rp rt x = some r ∧ f_M_side mth mlp mlm x = some (r, 0) := by
  obtain ⟨N, B, tks, nl, pc, N', -, -, -, -, -, -, -, -, -, -, -, -, -, b5, b6, -⟩ := h
  unfold f_R_side f_M_side
  rw [b5, b6]
  by_cases c : x = 0
  · rw [if_pos c, if_pos c]; exact ⟨_, rfl, rfl⟩
  · rw [if_neg c, if_neg c]
    by_cases d : x = 1
    · rw [if_pos d, if_pos d]; exact ⟨_, rfl, rfl⟩
    · rw [if_neg d, if_neg d]; exact ⟨_, rfl, rfl⟩
theorem S_value (h : SR k rf rc rp rt ln lb tn tk tb te tw kn kp kq ns mle mnm msp mpl mto mfa mlp mlm mlv mli mlt mna mns mst mco mki mbe men mwo) (mth : Int32) : ∃ r, f_R_value rc = some r ∧ f_M_value mth mlv = some (r, 0) := by
  obtain ⟨N, B, tks, nl, pc, N', -, -, -, -, -, -, -, -, -, -, -, -, b4, -⟩ := h
  exact ⟨rc, rfl, by unfold f_M_value; rw [b4]⟩
theorem S_fault (h : SR k rf rc rp rt ln lb tn tk tb te tw kn kp kq ns mle mnm msp mpl mto mfa mlp mlm mlv mli mlt mna mns mst mco mki mbe men mwo) (mth : Int32) : ∃ r, f_R_fault rf = some r ∧ f_M_fault mth mfa = some (r, 0) := by
  obtain ⟨N, B, tks, nl, pc, N', -, -, -, -, -, -, -, -, -, -, -, b3, -⟩ := h
  exact ⟨rf, rfl, by unfold f_M_fault; rw [b3]⟩
end
