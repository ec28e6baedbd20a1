/-! READ: both sides -/
theorem itm_256 {N : Nat} {B : Nat → Nat} {nl : List Nm} {kn : Int32} {kq : Nat → Option Nat} {ns : List NmR} (hk : KR nl kn kq ns) {ts : List Tk} (hg : TG N ts) : ∀ x ∈ ts.map (itm B nl), x.1 < 256 := by
  intro x hx
  obtain ⟨t, t1, t2⟩ := List.mem_map.mp hx
  have hgt := hg.2.2 t t1
  have h2 := sgc_lt hgt
  rw [← t2]
  rcases itm_code (B := B) hk hgt with ⟨h, -⟩ | ⟨h, -⟩ | ⟨h, -⟩ <;> rw [h] <;> omega
theorem cut_TG {N : Nat} {B : Nat → Nat} {ln : Int32} {lb : Nat → Int32} (h : LR N B ln lb) : TG N (cutT N B).1 := by
  have hn := (nsf_ge B N N 0 (by omega)).2
  obtain ⟨c1, c2⟩ := cutb_ok h.lt (N + 1) (nsf B N N 0) hn
  exact ⟨h.1, by unfold cutT; omega, c1⟩
def knd (p m : Int32) : Int32 := if m = -1 then (if p = -1 then 0 else 1) else 2
section
variable {N : Nat} {B : Nat → Nat} {ln : Int32} {lb : Nat → Int32} {nl : List Nm} {kn : Int32} {kq : Nat → Option Nat} {ns : List NmR}
variable {mle : Int32} {mli : Nat → Int32} {mnm msp : Int32} {mlt mna mns mst : Nat → Int32} {mco : Nat → Int64}
theorem read_both (hL : LR N B ln lb) (hM : MR N B mle mli) (hKR : KR nl kn kq ns) (hk : KM nl mnm msp mlt mna mns mst mco) (pr : Bool) (tn ts : Int32) (tk tb te : Nat → Int32) (tw : Nat → Int64) (xn : Int32) (xm : Nat → Option Nat) (xw : Nat → Int32) (vn vd : Int32) (vc : Nat → Int64) (vp vo : Nat → Int32)
    (mth mto mlr mma mod mfa mlp mlm : Int32) (mlv : Int64) (mki mbe men : Nat → Int32) (mwo : Nat → Int64) (msi mpu mmi : Nat → Int32) (mva : Nat → Int64) :
    ∃ tn' tk' tb' te' tw' fo xn' xm' xw' vn' vd' vc' vp' vo' rt th' mto' mlr' mma' mod' mlp' mlm' mlv' mki' mbe' men' mwo' msi' mpu' mmi' mva',
      f_T_cut tn ts tk tb te tw ln lb = some (tn', b01 (cutT N B).2, tk', tb', te', tw') ∧ TR (cutT N B).1 tn' tk' tb' te' tw' ∧
      f_X_findFault xn xm xw vn vd vc vp vo ln lb tn' (b01 (cutT N B).2) tk' tb' te' tw' kn kq ns (b01 pr) = some (fo, xn', xm', xw', vn', vd', vc', vp', vo') ∧
      f_M_read mth mle mnm mto mlr mma mod mfa mlp mlm mlv mli mlt mna mns mst mco mki mbe men mwo msi mpu mmi mva (b01 pr) = some (rt, th', 0, mto', mlr', mma', mod', fo, mlp', mlm', mlv', mki', mbe', men', mwo', msi', mpu', mmi', mva') ∧ TM (cutT N B).1 mto' mki' mbe' men' mwo' ∧
      (fo = 0 → th' = 0 ∧ mlv' = vc' 0 ∧ mlp' = vp' 0 ∧ mlm' = vo' 0 ∧ (vp' 0 = -1 → vo' 0 = -1) ∧ rt = knd mlp' mlm') ∧ (fo ≠ 0 → th' = 1 ∧ mlv' = mlv ∧ mlp' = mlp ∧ mlm' = mlm) := by
  have hTG := cut_TG hL
  obtain ⟨tn', tk', tb', te', tw', hc, hTR⟩ := T_cut hL tn ts tk tb te tw
  obtain ⟨mto', mlr', mki', mbe', men', mwo', hmc, hTM⟩ := M_cut hM mto mlr mki mbe men mwo
  obtain ⟨xm', hlk, hxm⟩ := X_lookUp hL hTR hTG hKR xm
  have hxe := X_isExpr hTR hTG hKR hxm pr
  have hxk := X_known hTR hTG hKR hxm
  obtain ⟨mma', msi', mpu', mmi', mva', hme, hAR⟩ := M_isExpr hM hTM hTG hKR hk pr mma msi mpu mmi mva
  have hmk := M_known hM hTM hTG hKR.2.2.1 hKR.1 hk
  have one : ¬ (1 : Int32) = 0 := by decide
  have g0 : ∀ (α : Type) (x : Option α), gi (0 : Int32) 1100 x = x := fun α x => gi_nI (i := 0) (by decide) (by decide)
  have c0 : (0 : Int32).toNatClampNeg = 0 := rfl
  -- a fault: the reference keeps what it had
  have bad : ∀ (k : Int32) (mma mod : Int32) (msi mpu mmi : Nat → Int32) (mva : Nat → Int64), ¬ k = 0 → f_M_read_j38 mth mle mnm mto' mlr' mma mod mfa mlp mlm mlv mli mlt mna mns mst mco mki' mbe' men' mwo' msi mpu mmi mva k = some (0, 1, 0, mto', mlr', mma, mod, k, mlp, mlm, mlv, mki', mbe', men', mwo', msi, mpu, mmi, mva) := by
    intro k mma mod msi mpu mmi mva hk
    unfold f_M_read_j38 f_M_read_j52 f_M_read_j71 f_M_read_j89
    rw [if_neg hk, if_neg hk, if_neg hk, if_neg hk]
  have hX0 : ∀ r, (if b01 (cutT N B).2 = 0 then some ((1 : Int32), xn, xm, xw, vn, vd, vc, vp, vo) else (f_X_isExpression xm' tn' tk' tw' ns (b01 pr)).bind (fun o_4 => if o_4 = (0 : Int32) then some ((2 : Int32), xn, xm', xw, vn, vd, vc, vp, vo) else (f_X_areNamesKnown xm' tn' tk').bind (fun o_6 => if o_6 = (0 : Int32) then some ((3 : Int32), xn, xm', xw, vn, vd, vc, vp, vo) else (f_X_workOut xn xm' xw vn vd vc vp vo tn' tk' tw' ns).bind (fun o_8 => (f_V_areOdd o_8.2.2.2.1).bind (fun o_9 => if o_9 = (0 : Int32) then some ((0 : Int32), o_8.1, xm', o_8.2.1, o_8.2.2.1, o_8.2.2.2.1, o_8.2.2.2.2.1, o_8.2.2.2.2.2.1, o_8.2.2.2.2.2.2) else some ((4 : Int32), o_8.1, xm', o_8.2.1, o_8.2.2.1, o_8.2.2.2.1, o_8.2.2.2.2.1, o_8.2.2.2.2.2.1, o_8.2.2.2.2.2.2)))))) = r → f_X_findFault xn xm xw vn vd vc vp vo ln lb tn' (b01 (cutT N B).2) tk' tb' te' tw' kn kq ns (b01 pr) = r := by
    intro r hr
    unfold f_X_findFault f_T_areSound
    rw [gz_b, Option.bind_some, hlk]
    exact hr
  have hM0 : ∀ r, (if b01 (cutT N B).2 = 0 then f_M_read_j38 mth mle mnm mto' mlr' mma mod mfa mlp mlm mlv mli mlt mna mns mst mco mki' mbe' men' mwo' msi mpu mmi mva 1 else if b01 (okx pr ((cutT N B).1.map (itm B nl)) true 0) = 0 then f_M_read_j38 mth mle mnm mto' mlr' mma' mod mfa mlp mlm mlv mli mlt mna mns mst mco mki' mbe' men' mwo' msi' mpu' mmi' mva' 2 else if b01 ((cutT N B).1.all (knw B nl)) = 0 then f_M_read_j38 mth mle mnm mto' mlr' mma' mod mfa mlp mlm mlv mli mlt mna mns mst mco mki' mbe' men' mwo' msi' mpu' mmi' mva' 3 else f_M_read_j38 mth mle mnm mto' mlr' mma' mod mfa mlp mlm mlv mli mlt mna mns mst mco mki' mbe' men' mwo' msi' mpu' mmi' mva' 0) = r → f_M_read mth mle mnm mto mlr mma mod mfa mlp mlm mlv mli mlt mna mns mst mco mki mbe men mwo msi mpu mmi mva (b01 pr) = r := by
    intro r hr
    unfold f_M_read
    rw [hmc, Option.bind_some]
    dsimp only
    rw [hme, Option.bind_some]
    dsimp only
    rw [hmk, Option.bind_some]
    exact hr
  rw [hxe, Option.bind_some, hxk, Option.bind_some] at hX0
  have one' : ¬ b01 true = 0 := by decide
  have z0 : b01 false = 0 := rfl
  cases hs : (cutT N B).2 with
  | false =>
    rw [hs, if_pos z0] at hX0 hM0
    rw [hs] at hc
    exact ⟨tn', tk', tb', te', tw', 1, xn, xm, xw, vn, vd, vc, vp, vo, 0, 1, mto', mlr', mma, mod, mlp, mlm, mlv, mki', mbe', men', mwo', msi, mpu, mmi, mva, hc, hTR, hX0 _ rfl, hM0 _ (bad 1 _ _ _ _ _ _ one), hTM, fun h => absurd h one, fun _ => ⟨rfl, rfl, rfl, rfl⟩⟩
  | true =>
    rw [hs, if_neg one'] at hX0 hM0
    rw [hs] at hc
    cases ho : okx pr ((cutT N B).1.map (itm B nl)) true 0 with
    | false =>
      have n2 : ¬ (2 : Int32) = 0 := by decide
      rw [ho, if_pos z0] at hX0 hM0
      exact ⟨tn', tk', tb', te', tw', 2, xn, xm', xw, vn, vd, vc, vp, vo, 0, 1, mto', mlr', mma', mod, mlp, mlm, mlv, mki', mbe', men', mwo', msi', mpu', mmi', mva', hc, hTR, hX0 _ rfl, hM0 _ (bad 2 _ _ _ _ _ _ n2), hTM, fun h => absurd h n2, fun _ => ⟨rfl, rfl, rfl, rfl⟩⟩
    | true =>
      rw [ho, if_neg one'] at hX0 hM0
      cases ha : (cutT N B).1.all (knw B nl) with
      | false =>
        have n3 : ¬ (3 : Int32) = 0 := by decide
        rw [ha, if_pos z0] at hX0 hM0
        exact ⟨tn', tk', tb', te', tw', 3, xn, xm', xw, vn, vd, vc, vp, vo, 0, 1, mto', mlr', mma', mod, mlp, mlm, mlv, mki', mbe', men', mwo', msi', mpu', mmi', mva', hc, hTR, hX0 _ rfl, hM0 _ (bad 3 _ _ _ _ _ _ n3), hTM, fun h => absurd h n3, fun _ => ⟨rfl, rfl, rfl, rfl⟩⟩
      | true =>
        obtain ⟨xn', xw', vn', vd', vc', vp', vo', hw, hVS⟩ := X_work hTR hTG hKR hxm ho xn xw vn vd vc vp vo
        obtain ⟨wma, wmod, wsi, wpu, wmi, wva, v, hmw, hST, hSY⟩ := M_work (itm_256 (B := B) hKR hTG) (by rw [List.length_map]; have := hTG.1; have := hTG.2.1; omega) ho (mod := mod) (hAR ho)
        rw [hSY] at hVS
        obtain ⟨-, hvd, ⟨hvc, -⟩, -⟩ := hVS
        have hA0 := hST.1.2 0 (0, v) rfl
        have hod : wmod = vd' := by
          rw [hST.2.1, hvd]
          cases v <;> rfl
        rw [ha, if_neg one'] at hX0 hM0
        rw [hw, Option.bind_some] at hX0
        unfold f_V_areOdd at hX0
        dsimp only at hX0
        rw [hvd, gz_b, Option.bind_some] at hX0
        unfold f_M_read_j38 at hM0
        rw [if_pos rfl, hmw, Option.bind_some] at hM0
        unfold f_M_read_j52 at hM0
        dsimp only at hM0
        rw [if_pos rfl, hod, hvd] at hM0
        cases v with
        | none =>
          have n4 : ¬ (4 : Int32) = 0 := by decide
          have e1 : b01 (ods [(none : Vl)]) = 1 := rfl
          rw [e1, if_neg one] at hX0 hM0
          unfold f_M_read_j71 f_M_read_j89 at hM0
          rw [if_neg n4, if_neg n4] at hM0
          exact ⟨tn', tk', tb', te', tw', 4, xn', xm', xw', vn', 1, vc', vp', vo', 0, 1, mto', mlr', wma, 1, mlp, mlm, mlv, mki', mbe', men', mwo', wsi, wpu, wmi, wva, hc, hTR, hX0 _ rfl, hM0 _ rfl, hTM, fun h => absurd h n4, fun _ => ⟨rfl, rfl, rfl, rfl⟩⟩
        | some x =>
          have e1 : b01 (ods [(some x : Vl)]) = 0 := rfl
          rw [e1, if_pos rfl] at hX0 hM0
          unfold f_M_read_j71 f_M_read_j89 at hM0
          rw [if_pos rfl, if_pos rfl] at hM0
          simp only [g0, c0] at hM0
          obtain ⟨-, q⟩ := hA0
          obtain ⟨q1, q2, q3⟩ := q x rfl
          obtain ⟨p1, p2, p3⟩ := hvc x rfl
          have p1 : vc' 0 = x.1 := p1
          have p2 : vp' 0 = x.2.1 := p2
          have p3 : vo' 0 = x.2.2 := p3
          have hG := (hST.2.2.2 (0, some x) (List.mem_cons_self)).1 x rfl
          have hkd : (if wmi 0 = -1 then (if wpu 0 = -1 then some ((0 : Int32), (0 : Int32), (0 : Int32), mto', mlr', wma, (0 : Int32), (0 : Int32), wpu 0, wmi 0, wva 0, mki', mbe', men', mwo', wsi, wpu, wmi, wva) else some (1, 0, 0, mto', mlr', wma, 0, 0, wpu 0, wmi 0, wva 0, mki', mbe', men', mwo', wsi, wpu, wmi, wva)) else some (2, 0, 0, mto', mlr', wma, 0, 0, wpu 0, wmi 0, wva 0, mki', mbe', men', mwo', wsi, wpu, wmi, wva)) = some (knd (wpu 0) (wmi 0), 0, 0, mto', mlr', wma, 0, 0, wpu 0, wmi 0, wva 0, mki', mbe', men', mwo', wsi, wpu, wmi, wva) := by
            unfold knd
            by_cases a : wmi 0 = -1
            · rw [if_pos a, if_pos a]
              by_cases b : wpu 0 = -1
              · rw [if_pos b, if_pos b]
              · rw [if_neg b, if_neg b]
            · rw [if_neg a, if_neg a]
          exact ⟨tn', tk', tb', te', tw', 0, xn', xm', xw', vn', 0, vc', vp', vo', knd (wpu 0) (wmi 0), 0, mto', mlr', wma, 0, wpu 0, wmi 0, wva 0, mki', mbe', men', mwo', wsi, wpu, wmi, wva, hc, hTR, hX0 _ rfl, hM0 _ hkd, hTM, fun _ => ⟨rfl, by rw [q1, p1], by rw [q2, p2], by rw [q3, p3], by rw [p2, p3]; exact hG, rfl⟩, fun h => absurd rfl h⟩
/-- the class's read where it does not throw -/
theorem R_read_ok {tn ts : Int32} {tk tb te : Nat → Int32} {tw : Nat → Int64} {xn : Int32} {xm : Nat → Option Nat} {xw : Nat → Int32} {vn vd : Int32} {vc : Nat → Int64} {vp vo : Nat → Int32} (rf : Int32) (rc : Int64) (rp rt : Int32) {p0 tn' ts' : Int32} {tk' tb' te' : Nat → Int32} {tw' : Nat → Int64} {xn' : Int32} {xm' : Nat → Option Nat} {xw' : Nat → Int32} {vn' vd' : Int32} {vc' : Nat → Int64} {vp' vo' : Nat → Int32}
    (h1 : f_T_cut tn ts tk tb te tw ln lb = some (tn', ts', tk', tb', te', tw')) (h2 : f_X_findFault xn xm xw vn vd vc vp vo ln lb tn' ts' tk' tb' te' tw' kn kq ns p0 = some (0, xn', xm', xw', vn', vd', vc', vp', vo')) (hG : vp' 0 = -1 → vo' 0 = -1) :
    f_R_read rf rc rp rt ln lb tn ts tk tb te tw kn kq xn xm xw vn vd vc vp vo ns p0 = some (knd (vp' 0) (vo' 0), 0, vc' 0, vp' 0, vo' 0, 0, tn', ts', tk', tb', te', tw', xn', xm', xw', vn', vd', vc', vp', vo') := by
  have g0 : ∀ (α : Type) (x : Option α), gi (0 : Int32) 512 x = x := fun α x => gi_nI (i := 0) (by decide) (by decide)
  have c0 : (0 : Int32).toNatClampNeg = 0 := rfl
  unfold f_R_read f_L_clear f_X_constantFound f_X_placeFound f_X_takenOffFound f_V_constantOfFirst f_V_placeOfFirst f_V_takenOffOfFirst f_R_kindOfLatest
  rw [h1, Option.bind_some]
  dsimp only
  rw [h2, Option.bind_some, Option.bind_some, if_pos rfl]
  simp only [g0, c0, Option.bind_some]
  unfold knd
  by_cases a : vp' 0 = -1
  · rw [if_pos a, hG a, if_pos rfl, if_pos a, Option.bind_some]
  · rw [if_neg a, if_neg a]
    by_cases b : vo' 0 = -1
    · rw [if_pos b, if_pos b, Option.bind_some]
    · rw [if_neg b, if_neg b, Option.bind_some]
end
