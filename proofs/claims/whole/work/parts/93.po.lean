/-! TYPE: both sides -/
theorem ty_255 (z : Int32) : ∃ b, b < 256 ∧ z &&& 255 = nI b := by
  refine ⟨(z &&& 255).toBitVec.toNat, ?_, ?_⟩
  · rw [Int32.toBitVec_and, BitVec.toNat_and]
    exact Nat.and_lt_two_pow (n := 8) _ (by decide)
  · refine Int32.toBitVec_inj.mp ?_
    show _ = BitVec.ofNat 32 _
    rw [BitVec.ofNat_toNat]
    rfl
theorem ty_cu : ∀ k, k < 64 → (((nI k).toInt64.toUInt64 &&& Int64.toUInt64 63).toBitVec % 64).toNat = k := by decide +kernel
theorem ty_cs : ∀ k, k < 64 → (((nI k).toInt64 &&& 63).toBitVec.smod 64).toNat = k := by decide +kernel
theorem ty_m64 : ∀ i, i < 64 → (255 : Int64).toBitVec.getLsbD i = decide (i < 8) := by decide +kernel
theorem ty_m32 : ∀ i, i < 32 → (255 : Int32).toBitVec.getLsbD i = decide (i < 8) := by decide +kernel
theorem ty_b8 (x : Int32) : x.toInt8.toInt32 &&& 255 = x &&& 255 := by
  refine Int32.toBitVec_inj.mp (BitVec.eq_of_getLsbD_eq (fun i hi => ?_))
  rw [Int32.toBitVec_and, Int32.toBitVec_and, BitVec.getLsbD_and, BitVec.getLsbD_and, ty_m32 i hi]
  by_cases c : i < 8
  · have e : x.toInt8.toInt32.toBitVec.getLsbD i = x.toBitVec.getLsbD i := by
      show ((x.toBitVec.signExtend 8).signExtend 32).getLsbD i = _
      rw [BitVec.getLsbD_signExtend, BitVec.getLsbD_signExtend]
      simp [c, hi]
    rw [e]
  · rw [decide_eq_false c, Bool.and_false, Bool.and_false]
theorem ty_byte (x : Int64) {k : Nat} (hk : k + 8 ≤ 64) : ((((x.toUInt64 >>> ((nI k).toInt64.toUInt64 &&& Int64.toUInt64 63)).toInt64).toInt32).toInt8.toInt32) &&& 255 = ((x >>> ((nI k).toInt64 &&& 63)) &&& 255).toInt32 := by
  rw [ty_b8]
  refine Int32.toBitVec_inj.mp (BitVec.eq_of_getLsbD_eq (fun i hi => ?_))
  rw [Int32.toBitVec_and, BitVec.getLsbD_and, ty_m32 i hi]
  have r : ((x >>> ((nI k).toInt64 &&& 63)) &&& 255).toInt32.toBitVec.getLsbD i = ((x >>> ((nI k).toInt64 &&& 63)).toBitVec.getLsbD i && decide (i < 8)) := by
    show (((x >>> ((nI k).toInt64 &&& 63)) &&& 255).toBitVec.signExtend 32).getLsbD i = _
    rw [BitVec.getLsbD_signExtend, Int64.toBitVec_and, BitVec.getLsbD_and, ty_m64 i (by omega)]
    simp [hi, show i < 64 by omega]
  rw [r]
  by_cases c : i < 8
  · have e1 : ((x.toUInt64 >>> ((nI k).toInt64.toUInt64 &&& Int64.toUInt64 63)).toInt64).toInt32.toBitVec.getLsbD i = x.toBitVec.getLsbD (k + i) := by
      show ((x.toUInt64 >>> ((nI k).toInt64.toUInt64 &&& Int64.toUInt64 63)).toBitVec.signExtend 32).getLsbD i = x.toUInt64.toBitVec.getLsbD (k + i)
      rw [BitVec.getLsbD_signExtend, UInt64.toBitVec_shiftRight]
      show (decide (i < 32) && if i < 64 then (x.toUInt64.toBitVec >>> (((nI k).toInt64.toUInt64 &&& Int64.toUInt64 63).toBitVec % 64).toNat).getLsbD i else _) = _
      rw [ty_cu k (by omega), BitVec.getLsbD_ushiftRight]
      simp [hi, show i < 64 by omega]
    have e2 : (x >>> ((nI k).toInt64 &&& 63)).toBitVec.getLsbD i = x.toBitVec.getLsbD (k + i) := by
      rw [Int64.toBitVec_shiftRight]
      show (x.toBitVec.sshiftRight (((nI k).toInt64 &&& 63).toBitVec.smod 64).toNat).getLsbD i = _
      rw [ty_cs k (by omega), BitVec.getLsbD_sshiftRight]
      simp [show i < 64 by omega, show k + i < 64 by omega]
    rw [e1, e2]
  · rw [decide_eq_false c, Bool.and_false, Bool.and_false]
theorem ty_loop (x : Int64) (mth : Int32) : ∀ j f N B ln lb mle mli, LR N B ln lb → MR N B mle mli → (∀ i, fits .byte (.int (lb i)) = true) → N + j ≤ 1024 → j ≤ 8 → j < f → ∃ B' ln' lb' mle' mli', f_L_append_l30 f ln lb x (nI j - 1) = some (1, ln', lb') ∧ f_M_type_l35 f mth mle mli x (nI j - 1) = some (1, mth, mle', mli') ∧ LR (N + j) B' ln' lb' ∧ MR (N + j) B' mle' mli' ∧ ∀ i, fits .byte (.int (lb' i)) = true := by
  intro j
  induction j with
  | zero =>
    intro f N B ln lb mle mli h1 h2 h3 h4 h5 h6
    cases f with
    | zero => omega
    | succ f =>
      refine ⟨B, ln, lb, mle, mli, ?_, ?_, h1, h2, h3⟩
      · unfold f_L_append_l30; rw [if_pos (by decide)]
      · unfold f_M_type_l35; rw [if_pos (by decide)]
  | succ j ih =>
    intro f N B ln lb mle mli h1 h2 h3 h4 h5 h6
    cases f with
    | zero => omega
    | succ f =>
      obtain ⟨b, b1, b2⟩ := ty_255 (((((x.toUInt64 >>> ((nI (8 * j)).toInt64.toUInt64 &&& Int64.toUInt64 63)).toInt64).toInt32).toInt8.toInt32))
      have b3 : ((x >>> ((nI (8 * j)).toInt64 &&& 63)) &&& 255).toInt32 = nI b := by rw [← ty_byte x (by omega), b2]
      have e8 : (8 : Int32) * nI j = nI (8 * j) := pk_mul 8 j
      have B' : Nat → Nat := B
      obtain ⟨B', ln', lb', mle', mli', r1, r2, r3, r4, r5⟩ := ih f (N + 1) (fun i => if i = N then b else B i) (nI (N + 1)) (upd lb N (vp_nar .byte ((((x.toUInt64 >>> ((nI (8 * j)).toInt64.toUInt64 &&& Int64.toUInt64 63)).toInt64).toInt32).toInt8.toInt32))) (nI (N + 1)) (upd mli N (((x >>> ((nI (8 * j)).toInt64 &&& 63)) &&& 255).toInt32))
        ⟨by omega, rfl, fun i hi => by
          dsimp only
          by_cases c : i = N
          · rw [c, if_pos rfl, upd_at, pk_vb]; exact ⟨b1, b2⟩
          · rw [if_neg c, upd_ne _ _ c]; exact h1.2.2 i (by omega)⟩
        ⟨by omega, rfl, fun i hi => by
          dsimp only
          by_cases c : i = N
          · rw [c, if_pos rfl, upd_at]; exact ⟨b1, b3⟩
          · rw [if_neg c, upd_ne _ _ c]; exact h2.2.2 i (by omega)⟩
        (fun i => by
          by_cases c : i = N
          · rw [c, upd_at, pk_vb]; exact pk_fb _
          · rw [upd_ne _ _ c]; exact h3 i) (by omega) (by omega) (by omega)
      rw [show N + 1 + j = N + (j + 1) by omega] at r3 r4
      refine ⟨B', ln', lb', mle', mli', ?_, ?_, r3, r4, r5⟩
      · unfold f_L_append_l30
        rw [nI_pred, if_neg (nI_pos (by omega)), h1.2.1, gi_nI (by omega) (by decide), nI_1, nI_clamp (by omega), e8, show nI j + (-1) = nI j - 1 by rw [Int32.sub_eq_add_neg]]
        exact r1
      · unfold f_M_type_l35
        rw [nI_pred, if_neg (nI_pos (by omega)), h2.2.1, gi_nI (by omega) (by decide), nI_1, nI_clamp (by omega), e8, show nI j + (-1) = nI j - 1 by rw [Int32.sub_eq_add_neg]]
        exact r2
theorem type_both {N : Nat} {B : Nat → Nat} {ln : Int32} {lb : Nat → Int32} {mle : Int32} {mli : Nat → Int32} (h1 : LR N B ln lb) (h2 : MR N B mle mli) (h3 : ∀ i, fits .byte (.int (lb i)) = true) (mth : Int32) (x : Int64) (n : Int32) :
    ∃ r N' B' ln' lb' mle' mli', f_R_type ln lb x n = some (r, ln', lb') ∧ f_M_type mth mle mli x n = some (r, 0, mle', mli') ∧ LR N' B' ln' lb' ∧ MR N' B' mle' mli' ∧ ∀ i, fits .byte (.int (lb' i)) = true := by
  unfold f_R_type f_L_append f_M_type
  by_cases a : n < 1
  · rw [if_pos a, if_pos a]; exact ⟨0, N, B, ln, lb, mle, mli, rfl, rfl, h1, h2, h3⟩
  · rw [if_neg a, if_neg a]
    by_cases b : 8 < n
    · rw [if_pos b, if_pos b]; exact ⟨0, N, B, ln, lb, mle, mli, rfl, rfl, h1, h2, h3⟩
    · rw [if_neg b, if_neg b]
      obtain ⟨j, j1, j2⟩ := nI_of2 (M := 8) (n := 8) (x := n) (by decide) (fun z => a (Int32.lt_trans z (by decide))) (Int32.not_lt.mp b)
      have hN := h1.1
      have eL : ln + n = nI (N + j) := by rw [h1.2.1, j2, nI_add]
      have eM : mle + n = nI (N + j) := by rw [h2.2.1, j2, nI_add]
      rw [eL, eM]
      by_cases c : N + j ≤ 1024
      · have cc : nI (N + j) ≤ (1024 : Int32) := nI_le (b := 1024) c (by decide)
        rw [if_pos cc, if_pos cc, j2]
        obtain ⟨B', ln', lb', mle', mli', r1, r2, r3, r4, r5⟩ := ty_loop x 0 j FU N B ln lb mle mli h1 h2 h3 c j1 (by unfold FU; omega)
        rw [r1, r2]
        exact ⟨1, N + j, B', ln', lb', mle', mli', rfl, rfl, r3, r4, r5⟩
      · have cc : ¬ nI (N + j) ≤ (1024 : Int32) := nI_ge (a := 1024) (by omega) (by omega)
        rw [if_neg cc, if_neg cc]
        exact ⟨0, N, B, ln, lb, mle, mli, rfl, rfl, h1, h2, h3⟩
