/-! ONE CALL, both sides -/
section
variable {k : Nat} {rf : Int32} {rc : Int64} {rp rt ln : Int32} {lb : Nat → Int32} {tn : Int32} {tk tb te : Nat → Int32} {tw : Nat → Int64} {kn kp : Int32} {kq : Nat → Option Nat} {ns : List NmR}
variable {mle mnm msp mpl mto mfa mlp mlm : Int32} {mlv : Int64} {mli mlt mna mns mst : Nat → Int32} {mco : Nat → Int64} {mki mbe men : Nat → Int32} {mwo : Nat → Int64}
theorem S_learn (h : SR k rf rc rp rt ln lb tn tk tb te tw kn kp kq ns mle mnm msp mpl mto mfa mlp mlm mlv mli mlt mna mns mst mco mki mbe men mwo) (hk : k ≤ 511) (ts mlr : Int32) (bz : Int32) (wv : Int64) (st : Int32) (hbz : bz = if st = -1 then 1 else 0) (hst : st = -1 ∨ st = -2) (hwv : st ≠ -2 → wv = 0) :
    ∃ tn' ts' tk' tb' te' tw' mto' mlr' mki' mbe' men' mwo', f_T_cut tn ts tk tb te tw ln lb = some (tn', ts', tk', tb', te', tw') ∧
      ((f_R_learnName ln lb tn ts tk tb te tw kn kq ns bz wv = some (0, 0, tn', ts', tk', tb', te', tw') ∧ gM st wv mle mnm msp mto mlr mli mlt mna mns mst mco mki mbe men mwo = some (0, 0, 0, mnm, msp, mto', mlr', mlt, mna, mns, mst, mco, mki', mbe', men', mwo') ∧ SR (k + 1) rf rc rp rt 0 lb tn' tk' tb' te' tw' kn kp kq ns 0 mnm msp mpl mto' mfa mlp mlm mlv mli mlt mna mns mst mco mki' mbe' men' mwo') ∨
       (∃ b n mnm' msp' mlt' mna' mns' mst' mco', b + n ≤ 1024 ∧ n ≤ 63 ∧ (∀ j, fits .byte (.int (lb j)) = true) ∧ nI (b + n) ≤ ln ∧ (kn < (256 : Int32) ∧ ¬ kn < 0) ∧ f_T_areJustOneName tn' ts' tk' = some 1 ∧ f_T_beginOf tn' tb' (0 : Int32) = some (nI b) ∧ f_T_endOf tn' te' (0 : Int32) = some (nI (b + n)) ∧ f_K_find kn kq ln lb ns (nI b) (nI (b + n)) = some none ∧ gM st wv mle mnm msp mto mlr mli mlt mna mns mst mco mki mbe men mwo = some (1, 0, 0, mnm', msp', mto', mlr', mlt', mna', mns', mst', mco', mki', mbe', men', mwo') ∧ ∀ aZ aA, (∀ q ∈ ns, q.1 ≠ aZ) → SR (k + 1) rf rc rp rt 0 lb tn' tk' tb' te' tw' (kn + 1) kp (va_up kq kn.toNatClampNeg (some aZ)) (ns ++ [(aZ, aA, n, cpB lb b n, bz, wv, -1)]) 0 mnm' msp' mpl mto' mfa mlp mlm mlv mli mlt' mna' mns' mst' mco' mki' mbe' men' mwo')) := by
  obtain ⟨N, B, tks, nl, pc, N', a1, a2, a3, a4, a5, a6, a7, a8, a9, b1, b2, b3, b4, b5, b6, b7⟩ := h
  have hTG := cut_TG a1
  obtain ⟨tn', tk', tb', te', tw', mto', mlr', mki', mbe', men', mwo', c1, c2, c3, c4⟩ := learn_both a1 a2 a7 a8 tn ts tk tb te tw mto mlr mki mbe men mwo bz wv st
  refine ⟨tn', b01 (cutT N B).2, tk', tb', te', tw', mto', mlr', mki', mbe', men', mwo', c1, ?_⟩
  have z1 : LR 0 B 0 lb := ⟨by omega, rfl, fun i hi => by omega⟩
  have z2 : MR 0 B 0 mli := ⟨by omega, rfl, fun i hi => by omega⟩
  rcases c4 with ⟨d1, d2⟩ | ⟨b, n, mnm', msp', mlt', mna', mns', mst', mco', ⟨e0, e1, e2, e3, e4, e5, e6⟩, d1, d2⟩
  · exact Or.inl ⟨d1, d2, 0, B, (cutT N B).1, nl, pc, N, z1, z2, a3, c2, c3, hTG, a7, a8, a9, b1, b2, b3, b4, b5, b6, by rw [if_pos rfl]; split at b7 <;> omega⟩
  · have hN : ¬ N = 0 := by omega
    rw [if_neg hN] at b7
    have hN4 := a1.1
    have hl : nl.length < 256 := by omega
    have hkn : kn < (256 : Int32) ∧ ¬ kn < 0 := by rw [a7.2.1]; exact ⟨nI_lt (b := 256) hl (by decide), nI_pos (by omega)⟩
    refine Or.inr ⟨b, n, mnm', msp', mlt', mna', mns', mst', mco', by omega, e2, a3, by rw [a1.2.1]; exact nI_le e1 (by omega), hkn, e3, e4, e5, e6, d1, fun aZ aA hf => ?_⟩
    have hNm : NmG (n, fun i => B (b + i), st, wv) := ⟨e2, fun i hi => (a1.2.2 (b + i) (by have hi : i < n := hi; omega)).1, by rcases hst with q | q; exact Or.inl q; exact Or.inr (Or.inl q), hwv⟩
    have hpv : (-1 : Int32) = whr st := by rcases hst with q | q <;> rw [q] <;> decide
    have hKR := KR_new a7 hl hNm (r := (aZ, aA, n, cpB lb b n, bz, wv, -1)) hf (NR_new a1 e1 aZ aA hbz hpv)
    exact ⟨0, B, (cutT N B).1, nl ++ [(n, fun i => B (b + i), st, wv)], pc, N, z1, z2, a3, c2, c3, hTG, hKR, d2, a9, b1, by rw [List.length_append]; omega, b3, b4, b5, b6, by rw [if_pos rfl, List.length_append]; show 2 * (nl.length + 1) + 0 ≤ k + 1; omega⟩
theorem S_place (h : SR k rf rc rp rt ln lb tn tk tb te tw kn kp kq ns mle mnm msp mpl mto mfa mlp mlm mlv mli mlt mna mns mst mco mki mbe men mwo) (hk : k ≤ 511) (ts mth mlr : Int32) :
    ∃ tn' ts' tk' tb' te' tw' mto' mlr' mki' mbe' men' mwo', f_T_cut tn ts tk tb te tw ln lb = some (tn', ts', tk', tb', te', tw') ∧
      ((∃ r, f_R_place ln lb tn ts tk tb te tw kn kq ns = some (r, 0, tn', ts', tk', tb', te', tw') ∧ f_M_place mth mle mnm msp mpl mto mlr mli mlt mna mns mst mco mki mbe men mwo = some (r, 0, 0, mnm, msp, mpl, mto', mlr', mlt, mna, mns, mst, mco, mki', mbe', men', mwo') ∧ SR (k + 1) rf rc rp rt 0 lb tn' tk' tb' te' tw' kn kp kq ns 0 mnm msp mpl mto' mfa mlp mlm mlv mli mlt mna mns mst mco mki' mbe' men' mwo') ∨
       (∃ b n mnm' msp' mlt' mna' mns' mst' mco', b + n ≤ 1024 ∧ n ≤ 63 ∧ (∀ j, fits .byte (.int (lb j)) = true) ∧ nI (b + n) ≤ ln ∧ (kn < (256 : Int32) ∧ ¬ kn < 0) ∧ f_T_areJustOneName tn' ts' tk' = some 1 ∧ f_T_beginOf tn' tb' (0 : Int32) = some (nI b) ∧ f_T_endOf tn' te' (0 : Int32) = some (nI (b + n)) ∧ f_K_find kn kq ln lb ns (nI b) (nI (b + n)) = some none ∧ f_M_place mth mle mnm msp mpl mto mlr mli mlt mna mns mst mco mki mbe men mwo = some (kp + 1 - 1, 0, 0, mnm', msp', mpl + 1, mto', mlr', mlt', mna', mns', mst', mco', mki', mbe', men', mwo') ∧ ∀ aZ aA, (∀ q ∈ ns, q.1 ≠ aZ) → SR (k + 1) rf rc rp rt 0 lb tn' tk' tb' te' tw' (kn + 1) (kp + 1) (va_up kq kn.toNatClampNeg (some aZ)) (ns ++ [(aZ, aA, n, cpB lb b n, 0, 0, kp)]) 0 mnm' msp' (mpl + 1) mto' mfa mlp mlm mlv mli mlt' mna' mns' mst' mco' mki' mbe' men' mwo')) := by
  obtain ⟨N, B, tks, nl, pc, N', a1, a2, a3, a4, a5, a6, a7, a8, a9, b1, b2, b3, b4, b5, b6, b7⟩ := h
  have hTG := cut_TG a1
  have h256 := a7.1
  obtain ⟨tn', tk', tb', te', tw', mto', mlr', mki', mbe', men', mwo', c1, c2, c3, c4⟩ := place_both a1 a2 a7 a8 tn ts tk tb te tw mth mto mlr mki mbe men mwo mpl
  refine ⟨tn', b01 (cutT N B).2, tk', tb', te', tw', mto', mlr', mki', mbe', men', mwo', c1, ?_⟩
  have z1 : LR 0 B 0 lb := ⟨by omega, rfl, fun i hi => by omega⟩
  have z2 : MR 0 B 0 mli := ⟨by omega, rfl, fun i hi => by omega⟩
  rcases c4 with ⟨r, d1, d2⟩ | ⟨b, n, mnm', msp', mlt', mna', mns', mst', mco', ⟨e0, e1, e2, e3, e4, e5, e6⟩, d1, d2⟩
  · exact Or.inl ⟨r, d1, d2, 0, B, (cutT N B).1, nl, pc, N, z1, z2, a3, c2, c3, hTG, a7, a8, a9, b1, b2, b3, b4, b5, b6, by rw [if_pos rfl]; split at b7 <;> omega⟩
  · have hN : ¬ N = 0 := by omega
    rw [if_neg hN] at b7
    have hN4 := a1.1
    have hl : nl.length < 256 := by omega
    have hkn : kn < (256 : Int32) ∧ ¬ kn < 0 := by rw [a7.2.1]; exact ⟨nI_lt (b := 256) hl (by decide), nI_pos (by omega)⟩
    have ekp : kp + 1 - 1 = mpl := by rw [a9, b1, nI_1, nI_pred]
    refine Or.inr ⟨b, n, mnm', msp', mlt', mna', mns', mst', mco', by omega, e2, a3, by rw [a1.2.1]; exact nI_le e1 (by omega), hkn, e3, e4, e5, e6, by rw [ekp]; exact d1, fun aZ aA hf => ?_⟩
    have p0 : (0 : Int32) ≤ mpl := by rw [b1]; exact nI_pos' (by omega)
    have nm1 : ¬ mpl = -1 := fun q => by rw [q] at p0; revert p0; decide
    have hNm : NmG (n, fun i => B (b + i), mpl, 0) := ⟨e2, fun i hi => (a1.2.2 (b + i) (by have hi : i < n := hi; omega)).1, Or.inr (Or.inr p0), fun _ => rfl⟩
    have hpv : kp = whr mpl := by unfold whr; rw [if_pos p0, a9]
    have hKR := KR_new a7 hl hNm (r := (aZ, aA, n, cpB lb b n, 0, 0, kp)) hf (NR_new a1 e1 aZ aA (by rw [if_neg nm1]) hpv)
    exact ⟨0, B, (cutT N B).1, nl ++ [(n, fun i => B (b + i), mpl, 0)], pc + 1, N, z1, z2, a3, c2, c3, hTG, hKR, d2, by rw [a9], by rw [b1, nI_1], by rw [List.length_append]; show pc + 1 ≤ nl.length + 1; omega, b3, b4, b5, b6, by rw [if_pos rfl, List.length_append]; show 2 * (nl.length + 1) + 0 ≤ k + 1; omega⟩
theorem S_read (h : SR k rf rc rp rt ln lb tn tk tb te tw kn kp kq ns mle mnm msp mpl mto mfa mlp mlm mlv mli mlt mna mns mst mco mki mbe men mwo) (pr : Bool) (ts xn : Int32) (xm : Nat → Option Nat) (xw : Nat → Int32) (vn vd : Int32) (vc : Nat → Int64) (vp vo : Nat → Int32) (mth mlr mma mod : Int32) (msi mpu mmi : Nat → Int32) (mva : Nat → Int64) :
    ∃ tn' ts' tk' tb' te' tw' fo xn' xm' xw' vn' vd' vc' vp' vo' rs mto' mlr' mma' mod' mki' mbe' men' mwo' msi' mpu' mmi' mva',
      (f_R_read rf rc rp rt ln lb tn ts tk tb te tw kn kq xn xm xw vn vd vc vp vo ns (b01 pr) = some (rs, 0, vc' 0, vp' 0, vo' 0, 0, tn', ts', tk', tb', te', tw', xn', xm', xw', vn', vd', vc', vp', vo') ∧
        f_M_read mth mle mnm mto mlr mma mod mfa mlp mlm mlv mli mlt mna mns mst mco mki mbe men mwo msi mpu mmi mva (b01 pr) = some (rs, 0, 0, mto', mlr', mma', mod', 0, vp' 0, vo' 0, vc' 0, mki', mbe', men', mwo', msi', mpu', mmi', mva') ∧ SR (k + 1) 0 (vc' 0) (vp' 0) (vo' 0) 0 lb tn' tk' tb' te' tw' kn kp kq ns 0 mnm msp mpl mto' 0 (vp' 0) (vo' 0) (vc' 0) mli mlt mna mns mst mco mki' mbe' men' mwo') ∨
      (¬ fo = 0 ∧ f_T_cut tn ts tk tb te tw ln lb = some (tn', ts', tk', tb', te', tw') ∧ f_X_findFault xn xm xw vn vd vc vp vo ln lb tn' ts' tk' tb' te' tw' kn kq ns (b01 pr) = some (fo, xn', xm', xw', vn', vd', vc', vp', vo') ∧
        f_M_read mth mle mnm mto mlr mma mod mfa mlp mlm mlv mli mlt mna mns mst mco mki mbe men mwo msi mpu mmi mva (b01 pr) = some (rs, 1, 0, mto', mlr', mma', mod', fo, mlp, mlm, mlv, mki', mbe', men', mwo', msi', mpu', mmi', mva') ∧ SR (k + 1) fo rc rp rt 0 lb tn' tk' tb' te' tw' kn kp kq ns 0 mnm msp mpl mto' fo mlp mlm mlv mli mlt mna mns mst mco mki' mbe' men' mwo') := by
  obtain ⟨N, B, tks, nl, pc, N', a1, a2, a3, a4, a5, a6, a7, a8, a9, b1, b2, b3, b4, b5, b6, b7⟩ := h
  have hTG := cut_TG a1
  have z1 : LR 0 B 0 lb := ⟨by omega, rfl, fun i hi => by omega⟩
  have z2 : MR 0 B 0 mli := ⟨by omega, rfl, fun i hi => by omega⟩
  obtain ⟨tn', tk', tb', te', tw', fo, xn', xm', xw', vn', vd', vc', vp', vo', rs, th', mto', mlr', mma', mod', mlp', mlm', mlv', mki', mbe', men', mwo', msi', mpu', mmi', mva', c1, c2, c3, c4, c5, c6, c7⟩ := read_both a1 a2 a7 a8 pr tn ts tk tb te tw xn xm xw vn vd vc vp vo mth mto mlr mma mod mfa mlp mlm mlv mki mbe men mwo msi mpu mmi mva
  refine ⟨tn', b01 (cutT N B).2, tk', tb', te', tw', fo, xn', xm', xw', vn', vd', vc', vp', vo', rs, mto', mlr', mma', mod', mki', mbe', men', mwo', msi', mpu', mmi', mva', ?_⟩
  by_cases hf : fo = 0
  · obtain ⟨d1, d2, d3, d4, d5, d6⟩ := c6 hf
    rw [hf] at c3 c4
    rw [d1, d2, d3, d4] at c4
    have hr := R_read_ok rf rc rp rt c1 c3 d5
    rw [d6, d3, d4] at c4
    rw [d6, d3, d4]
    exact Or.inl ⟨hr, c4, 0, B, (cutT N B).1, nl, pc, N, z1, z2, a3, c2, c5, hTG, a7, a8, a9, b1, b2, rfl, rfl, rfl, rfl, by rw [if_pos rfl]; split at b7 <;> omega⟩
  · obtain ⟨d1, d2, d3, d4⟩ := c7 hf
    rw [d1, d2, d3, d4] at c4
    exact Or.inr ⟨hf, c1, c3, c4, 0, B, (cutT N B).1, nl, pc, N, z1, z2, a3, c2, c5, hTG, a7, a8, a9, b1, b2, rfl, b4, b5, b6, by rw [if_pos rfl]; split at b7 <;> omega⟩
end
