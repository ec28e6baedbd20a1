theorem d_R_type_0 : decode b_R_type 0 = .ok (.aload_n 0, 1) := by decide +kernel
theorem d_R_type_1 : decode b_R_type 1 = .ok (.getfield 10, 3) := by decide +kernel
theorem d_R_type_4 : decode b_R_type 4 = .ok (.lload_n 1, 1) := by decide +kernel
theorem d_R_type_5 : decode b_R_type 5 = .ok (.iload_n 3, 1) := by decide +kernel
theorem d_R_type_6 : decode b_R_type 6 = .ok (.invokevirtual 51, 3) := by decide +kernel
theorem d_R_type_9 : decode b_R_type 9 = .ok (.ireturn, 1) := by decide +kernel
theorem d_R_fault_0 : decode b_R_fault 0 = .ok (.aload_n 0, 1) := by decide +kernel
theorem d_R_fault_1 : decode b_R_fault 1 = .ok (.getfield 37, 3) := by decide +kernel
theorem d_R_fault_4 : decode b_R_fault 4 = .ok (.ireturn, 1) := by decide +kernel
theorem d_R_value_0 : decode b_R_value 0 = .ok (.aload_n 0, 1) := by decide +kernel
theorem d_R_value_1 : decode b_R_value 1 = .ok (.getfield 41, 3) := by decide +kernel
theorem d_R_value_4 : decode b_R_value 4 = .ok (.lreturn, 1) := by decide +kernel
theorem d_R_side_0 : decode b_R_side 0 = .ok (.iload_n 1, 1) := by decide +kernel
theorem d_R_side_1 : decode b_R_side 1 = .ok (.ifCond .ne 8, 3) := by decide +kernel
theorem d_R_side_4 : decode b_R_side 4 = .ok (.aload_n 0, 1) := by decide +kernel
theorem d_R_side_5 : decode b_R_side 5 = .ok (.getfield 45, 3) := by decide +kernel
theorem d_R_side_8 : decode b_R_side 8 = .ok (.ireturn, 1) := by decide +kernel
theorem d_R_side_9 : decode b_R_side 9 = .ok (.iload_n 1, 1) := by decide +kernel
theorem d_R_side_10 : decode b_R_side 10 = .ok (.iconst 1, 1) := by decide +kernel
theorem d_R_side_11 : decode b_R_side 11 = .ok (.if_icmp .ne 10, 3) := by decide +kernel
theorem d_R_side_14 : decode b_R_side 14 = .ok (.aload_n 0, 1) := by decide +kernel
theorem d_R_side_15 : decode b_R_side 15 = .ok (.getfield 48, 3) := by decide +kernel
theorem d_R_side_18 : decode b_R_side 18 = .ok (.goto 4, 3) := by decide +kernel
theorem d_R_side_21 : decode b_R_side 21 = .ok (.iconst (-1), 1) := by decide +kernel
theorem d_R_side_22 : decode b_R_side 22 = .ok (.ireturn, 1) := by decide +kernel
theorem d_R_token_0 : decode b_R_token 0 = .ok (.iload_n 2, 1) := by decide +kernel
theorem d_R_token_1 : decode b_R_token 1 = .ok (.tableswitch 67 0 3 #[31, 40, 49, 58], 31) := by decide +kernel
theorem d_R_token_32 : decode b_R_token 32 = .ok (.aload_n 0, 1) := by decide +kernel
theorem d_R_token_33 : decode b_R_token 33 = .ok (.getfield 19, 3) := by decide +kernel
theorem d_R_token_36 : decode b_R_token 36 = .ok (.iload_n 1, 1) := by decide +kernel
theorem d_R_token_37 : decode b_R_token 37 = .ok (.invokevirtual 106, 3) := by decide +kernel
theorem d_R_token_40 : decode b_R_token 40 = .ok (.ireturn, 1) := by decide +kernel
theorem d_R_token_41 : decode b_R_token 41 = .ok (.aload_n 0, 1) := by decide +kernel
theorem d_R_token_42 : decode b_R_token 42 = .ok (.getfield 19, 3) := by decide +kernel
theorem d_R_token_45 : decode b_R_token 45 = .ok (.iload_n 1, 1) := by decide +kernel
theorem d_R_token_46 : decode b_R_token 46 = .ok (.invokevirtual 67, 3) := by decide +kernel
theorem d_R_token_49 : decode b_R_token 49 = .ok (.ireturn, 1) := by decide +kernel
theorem d_R_token_50 : decode b_R_token 50 = .ok (.aload_n 0, 1) := by decide +kernel
theorem d_R_token_51 : decode b_R_token 51 = .ok (.getfield 19, 3) := by decide +kernel
theorem d_R_token_54 : decode b_R_token 54 = .ok (.iload_n 1, 1) := by decide +kernel
theorem d_R_token_55 : decode b_R_token 55 = .ok (.invokevirtual 71, 3) := by decide +kernel
theorem d_R_token_58 : decode b_R_token 58 = .ok (.ireturn, 1) := by decide +kernel
theorem d_R_token_59 : decode b_R_token 59 = .ok (.aload_n 0, 1) := by decide +kernel
theorem d_R_token_60 : decode b_R_token 60 = .ok (.getfield 19, 3) := by decide +kernel
theorem d_R_token_63 : decode b_R_token 63 = .ok (.iload_n 1, 1) := by decide +kernel
theorem d_R_token_64 : decode b_R_token 64 = .ok (.invokevirtual 109, 3) := by decide +kernel
theorem d_R_token_67 : decode b_R_token 67 = .ok (.ireturn, 1) := by decide +kernel
theorem d_R_token_68 : decode b_R_token 68 = .ok (.iconst (-1), 1) := by decide +kernel
theorem d_R_token_69 : decode b_R_token 69 = .ok (.ireturn, 1) := by decide +kernel
theorem d_R_kindOfLatest_0 : decode b_R_kindOfLatest 0 = .ok (.aload_n 0, 1) := by decide +kernel
theorem d_R_kindOfLatest_1 : decode b_R_kindOfLatest 1 = .ok (.getfield 45, 3) := by decide +kernel
theorem d_R_kindOfLatest_4 : decode b_R_kindOfLatest 4 = .ok (.iconst (-1), 1) := by decide +kernel
theorem d_R_kindOfLatest_5 : decode b_R_kindOfLatest 5 = .ok (.if_icmp .ne 5, 3) := by decide +kernel
theorem d_R_kindOfLatest_8 : decode b_R_kindOfLatest 8 = .ok (.iconst 0, 1) := by decide +kernel
theorem d_R_kindOfLatest_9 : decode b_R_kindOfLatest 9 = .ok (.ireturn, 1) := by decide +kernel
theorem d_R_kindOfLatest_10 : decode b_R_kindOfLatest 10 = .ok (.aload_n 0, 1) := by decide +kernel
theorem d_R_kindOfLatest_11 : decode b_R_kindOfLatest 11 = .ok (.getfield 48, 3) := by decide +kernel
theorem d_R_kindOfLatest_14 : decode b_R_kindOfLatest 14 = .ok (.iconst (-1), 1) := by decide +kernel
theorem d_R_kindOfLatest_15 : decode b_R_kindOfLatest 15 = .ok (.if_icmp .ne 7, 3) := by decide +kernel
theorem d_R_kindOfLatest_18 : decode b_R_kindOfLatest 18 = .ok (.iconst 1, 1) := by decide +kernel
theorem d_R_kindOfLatest_19 : decode b_R_kindOfLatest 19 = .ok (.goto 4, 3) := by decide +kernel
theorem d_R_kindOfLatest_22 : decode b_R_kindOfLatest 22 = .ok (.iconst 2, 1) := by decide +kernel
theorem d_R_kindOfLatest_23 : decode b_R_kindOfLatest 23 = .ok (.ireturn, 1) := by decide +kernel
theorem wb_317 : Cond.fieldLink R_R 10 R_R "line" "LExpressionReader$Line;" ∈ WB := wbm (i := 183) (by decide +kernel) rfl
theorem wb_318 : Cond.methodLink R_R 51 y_L_append ∈ WB := wbm (i := 212) (by decide +kernel) rfl
theorem wb_319 : Cond.code y_L_append b_L_append 5 (some .boolean) ∈ WB := wbm (i := 215) (by decide +kernel) rfl
theorem wb_320 : Cond.instanceMethod y_L_append ∈ WB := wbm (i := 213) (by decide +kernel) rfl
theorem wb_321 : Cond.selects R_L y_L_append y_L_append ∈ WB := wbm (i := 214) (by decide +kernel) rfl
theorem wb_322 : Cond.fieldLink R_R 37 R_R "latestFault" "I" ∈ WB := wbm (i := 187) (by decide +kernel) rfl
theorem wb_323 : Cond.fieldLink R_R 41 R_R "latestConstant" "J" ∈ WB := wbm (i := 188) (by decide +kernel) rfl
theorem wb_324 : Cond.fieldLink R_R 48 R_R "latestTakenOff" "I" ∈ WB := wbm (i := 190) (by decide +kernel) rfl
theorem wb_325 : Cond.fieldLink R_R 45 R_R "latestPlace" "I" ∈ WB := wbm (i := 189) (by decide +kernel) rfl
theorem wb_326 : Cond.fieldLink R_R 19 R_R "tokens" "LExpressionReader$Tokens;" ∈ WB := wbm (i := 184) (by decide +kernel) rfl
theorem wb_327 : Cond.methodLink R_R 106 y_T_kindOf ∈ WB := wbm (i := 704) (by decide +kernel) rfl
theorem wb_328 : Cond.methodLink R_R 67 y_T_beginOf ∈ WB := wbm (i := 318) (by decide +kernel) rfl
theorem wb_329 : Cond.code y_T_beginOf b_T_beginOf 2 (some .int) ∈ WB := wbm (i := 321) (by decide +kernel) rfl
theorem wb_330 : Cond.instanceMethod y_T_beginOf ∈ WB := wbm (i := 319) (by decide +kernel) rfl
theorem wb_331 : Cond.selects R_T y_T_beginOf y_T_beginOf ∈ WB := wbm (i := 320) (by decide +kernel) rfl
theorem wb_332 : Cond.methodLink R_R 71 y_T_endOf ∈ WB := wbm (i := 322) (by decide +kernel) rfl
theorem wb_333 : Cond.code y_T_endOf b_T_endOf 2 (some .int) ∈ WB := wbm (i := 325) (by decide +kernel) rfl
theorem wb_334 : Cond.instanceMethod y_T_endOf ∈ WB := wbm (i := 323) (by decide +kernel) rfl
theorem wb_335 : Cond.selects R_T y_T_endOf y_T_endOf ∈ WB := wbm (i := 324) (by decide +kernel) rfl
theorem wb_336 : Cond.methodLink R_R 109 y_T_lowWorthOf ∈ WB := wbm (i := 705) (by decide +kernel) rfl
theorem wb_337 : Cond.code y_T_lowWorthOf b_T_lowWorthOf 2 (some .int) ∈ WB := wbm (i := 708) (by decide +kernel) rfl
theorem wb_338 : Cond.instanceMethod y_T_lowWorthOf ∈ WB := wbm (i := 706) (by decide +kernel) rfl
theorem wb_339 : Cond.selects R_T y_T_lowWorthOf y_T_lowWorthOf ∈ WB := wbm (i := 707) (by decide +kernel) rfl
def f_R_type (ln : Int32) (lb : Nat → Int32) (p0 : Int64) (p1 : Int32) : Option (Int32 × Int32 × (Nat → Int32)) := (f_L_append ln lb p0 p1).bind (fun o_1 => some (o_1.1, o_1.2.1, o_1.2.2))
set_option maxHeartbeats 4000000 in
set_option maxRecDepth 100000 in
theorem c_R_type (l : Launch) (dC : Nat → ClassId) (dI : Nat → Nat → Nat) (aR aL aB aT aK aG aE aW aN aQ aX aM aY aV aC aP aO : Nat) (cB : ClassId) (sz : Nat) (rf : Int32) (rc : Int64) (rp : Int32) (rt : Int32) (ln : Int32) (lb : Nat → Int32) (p0 : Int64) (p1 : Int32) (o : Int32 × Int32 × (Nat → Int32)) (hf : f_R_type ln lb p0 p1 = some o) : Met l y_R_type (w_R_type) ({ frames := 1, cells := 0, slots := 0, locals := 24 }) (va_Pc [.ref aR, .long p0, .int p1] (fun U => U.heap.size = sz ∧ va_P (dC, dI) vwCl [(aR, .inr (0, [.ref aL, .ref aT, .ref aN, .ref aX, .int rf, .long rc, .int rp, .int rt])), (aL, .inr (1, [.ref aB, .int ln])), (aB, .inl (cB, 1024, .inl lb))] U.heap ∧ va_K (dC, dI) vwCl [(cB, .byte)] U ∧ va_D (fun _ => True) [(aR, .inr (0, [.ref aL, .ref aT, .ref aN, .ref aX, .int rf, .long rc, .int rp, .int rt])), (aL, .inr (1, [.ref aB, .int ln])), (aB, .inl (cB, 1024, .inl lb))] ∧ NW U)) (va_Qi (fun (r : Int32) (_ : Unit) => r = o.1 ∧ narrow .boolean (.int r) = .int r) (fun _ t => va_P (dC, dI) vwCl [(aR, .inr (0, [.ref aL, .ref aT, .ref aN, .ref aX, .int rf, .long rc, .int rp, .int rt])), (aL, .inr (1, [.ref aB, .int o.2.1])), (aB, .inl (cB, 1024, .inl o.2.2))] t.heap ∧ va_K (dC, dI) vwCl [(cB, .byte)] t ∧ va_D (va_A [(aR, .inr (0, [.ref aL, .ref aT, .ref aN, .ref aX, .int rf, .long rc, .int rp, .int rt])), (aL, .inr (1, [.ref aB, .int ln])), (aB, .inl (cB, 1024, .inl lb))] sz) [(aR, .inr (0, [.ref aL, .ref aT, .ref aN, .ref aX, .int rf, .long rc, .int rp, .int rt])), (aL, .inr (1, [.ref aB, .int o.2.1])), (aB, .inl (cB, 1024, .inl o.2.2))]) (va_A [(aR, .inr (0, [.ref aL, .ref aT, .ref aN, .ref aX, .int rf, .long rc, .int rp, .int rt])), (aL, .inr (1, [.ref aB, .int ln])), (aB, .inl (cB, 1024, .inl lb))] sz)) 0 0 (va_A [(aR, .inr (0, [.ref aL, .ref aT, .ref aN, .ref aX, .int rf, .long rc, .int rp, .int rt])), (aL, .inr (1, [.ref aB, .int ln])), (aB, .inl (cB, 1024, .inl lb))] sz) := by
  refine Met.ofW (cc := b_R_type) (maxL := 4) (ret := (some .boolean)) (by decide) rfl ?_
  intro p e s m args below meth c s₁ B hml hv
  obtain ⟨rfl, hsz, hP, hK, hD0, hN⟩ := hv
  have hx := B.exec
  have hb := B.bytes
  have hr := B.returns
  have hts : ∀ w ∈ WB, w.before _ s = true := fun w h => atoms_spec (ws := w_R_type) B.pre w (List.mem_cons_of_mem _ h)
  have hown : s.vm.findClass R_R = some m.cls := findClass_of_methodNamed B.named
  have hlocks := B.notSynchronized
  subst hsz
  have hD := hD0.self (sz := s.heap.size)
  generalize hAe : va_A [(aR, .inr (0, [.ref aL, .ref aT, .ref aN, .ref aX, .int rf, .long rc, .int rp, .int rt])), (aL, .inr (1, [.ref aB, .int ln])), (aB, .inl (cB, 1024, .inl lb))] s.heap.size = A at hD ⊢
  have hA : ∀ q : Nat, s.heap.size ≤ q → A q := fun q h => by rw [← hAe]; exact Or.inr h
  have hS : va_S A s.heap s.heap [] := va_S.rf
  have hP : va_P (dC, dI) vwCl [(aR, .inr (0, [.ref aL, .ref aT, .ref aN, .ref aX, .int rf, .long rc, .int rp, .int rt])), (aL, .inr (1, [.ref aB, .int ln])), (aB, .inl (cB, 1024, .inl lb))] s.heap := hP
  have hl := lv_entry [.ref aR, .long p0, .int p1] (n := 4) (Nat.le_of_ble_eq_true rfl)
  rw [lg_entry_eq]
  generalize (lg_sl [.ref aR, .long p0, .int p1] ++ List.replicate (4 - (lg_sl [.ref aR, .long p0, .int p1]).length) Slot.unset).toArray = ls at hl ⊢
  have hl : lv_has ls 4 [(0, .ref aR), (1, .long p0), (3, .int p1)] := hl
  suffices key : ∀ Q : State → Prop, Q = (MQ below (va_Qi (fun (r : Int32) (_ : Unit) => r = o.1 ∧ narrow .boolean (.int r) = .int r) (fun _ t => va_P (dC, dI) vwCl [(aR, .inr (0, [.ref aL, .ref aT, .ref aN, .ref aX, .int rf, .long rc, .int rp, .int rt])), (aL, .inr (1, [.ref aB, .int o.2.1])), (aB, .inl (cB, 1024, .inl o.2.2))] t.heap ∧ va_K (dC, dI) vwCl [(cB, .byte)] t ∧ va_D A [(aR, .inr (0, [.ref aL, .ref aT, .ref aN, .ref aX, .int rf, .long rc, .int rp, .int rt])), (aL, .inr (1, [.ref aB, .int o.2.1])), (aB, .inl (cB, 1024, .inl o.2.2))]) A) [.ref aR, .long p0, .int p1].toArray s 0 0 A) → W p l e (headSpec (w_R_type) ({ frames := 1, cells := 0, slots := 0, locals := 24 })).room s m [.ref aR, .long p0, .int p1].toArray below meth c s.heap [] 0 0 Q (F0 m 0 ls []) from key _ rfl
  intro Q hQ
  unfold f_R_type at hf
  refine lv_aload_n hx hb d_R_type_0 rfl (lv_at hl 0 rfl) ?_
  refine va_get (D := (dC, dI)) (ci := 0) (v := .ref aL) (C := R_R) (T := F_R) (N := 8) hx hb hts i_R hown hK hP 0 rfl rfl 0 (by decide) (hts _ wb_317) (fun _ h9 => h9) rfl d_R_type_1 ?_
  refine lv_lload_n hx hb d_R_type_4 rfl (lv_at hl 1 rfl) ?_
  refine lv_iload_n hx hb d_R_type_5 rfl (lv_at hl 2 rfl) ?_
  obtain ⟨o_1, hM_1, hf⟩ := bd_some hf
  refine cl_i (wr := [(aR, .inr (0, [.ref aL, .ref aT, .ref aN, .ref aX, .int rf, .long rc, .int rp, .int rt]))]) (va_runV (As := [.long p0, .int p1]) (rest := []) ⟨hx, hb, hml, hown, hts⟩ (c_L_append l dC dI aL aB cB s.heap.size ln lb p0 p1 o_1 hM_1) (cwV 2 hts (gwV wb_318 wb_320 wb_321 wb_6 wb_319) rfl rfl rfl (by decide +kernel) ⟨Nat.le_of_ble_eq_true rfl, Nat.le_of_ble_eq_true rfl⟩) (pr_V (hP.sub [1, 2] rfl) (hD.sub [1, 2] (by decide) rfl) hK hN [0] rfl (ci := 1) rfl rfl rfl) rfl rfl hl.1 rfl (lv_room (Nat.le_of_ble_eq_true rfl)) d_R_type_6 ⟨Nat.zero_le _, Nat.zero_le _⟩) hP hD hS hA [1, 2] [0] rfl rfl (by decide) (by decide) (fun r_1 H locs hw hP hD hS => ?_)
  obtain ⟨hw, hz_1⟩ := hw
  subst r_1
  have hP : va_P (dC, dI) vwCl [(aR, .inr (0, [.ref aL, .ref aT, .ref aN, .ref aX, .int rf, .long rc, .int rp, .int rt])), (aL, .inr (1, [.ref aB, .int o_1.2.1])), (aB, .inl (cB, 1024, .inl o_1.2.2))] H := hP
  have hD : va_D A [(aR, .inr (0, [.ref aL, .ref aT, .ref aN, .ref aX, .int rf, .long rc, .int rp, .int rt])), (aL, .inr (1, [.ref aB, .int o_1.2.1])), (aB, .inl (cB, 1024, .inl o_1.2.2))] := hD
  have ho := Option.some.inj hf
  have hP9 : va_P (dC, dI) vwCl [(aR, .inr (0, [.ref aL, .ref aT, .ref aN, .ref aX, .int rf, .long rc, .int rp, .int rt])), (aL, .inr (1, [.ref aB, .int o.2.1])), (aB, .inl (cB, 1024, .inl o.2.2))] H := by rw [← ho]; exact hP.sub (ws' := [(aR, .inr (0, [.ref aL, .ref aT, .ref aN, .ref aX, .int rf, .long rc, .int rp, .int rt])), (aL, .inr (1, [.ref aB, .int o_1.2.1])), (aB, .inl (cB, 1024, .inl o_1.2.2))]) [0, 1, 2] rfl
  have hD9 : va_D A [(aR, .inr (0, [.ref aL, .ref aT, .ref aN, .ref aX, .int rf, .long rc, .int rp, .int rt])), (aL, .inr (1, [.ref aB, .int o.2.1])), (aB, .inl (cB, 1024, .inl o.2.2))] := by rw [← ho]; exact hD.sub (ws' := [(aR, .inr (0, [.ref aL, .ref aT, .ref aN, .ref aX, .int rf, .long rc, .int rp, .int rt])), (aL, .inr (1, [.ref aB, .int o_1.2.1])), (aB, .inl (cB, 1024, .inl o_1.2.2))]) [0, 1, 2] (by decide) rfl
  rw [hQ]
  exact W.zret (v := o_1.1) (ty := .boolean) hx hb hr hz_1 (fun t ht hW => ⟨⟨o_1.1, (), rfl, ⟨congrArg (fun z => z.1) ho, hz_1⟩, by rw [ht]; exact hP9, va_K.moved hW.alike hK, hD9⟩, hS.F ht⟩) hS.2.2 d_R_type_9

def f_R_fault (rf : Int32) : Option (Int32) := some (rf)
set_option maxHeartbeats 4000000 in
set_option maxRecDepth 100000 in
theorem c_R_fault (l : Launch) (dC : Nat → ClassId) (dI : Nat → Nat → Nat) (aR aL aB aT aK aG aE aW aN aQ aX aM aY aV aC aP aO : Nat) (sz : Nat) (rf : Int32) (rc : Int64) (rp : Int32) (rt : Int32) (o : Int32) (hf : f_R_fault rf = some o) : Met l y_R_fault (w_R_fault) ({ frames := 0, cells := 0, slots := 0, locals := 0 }) (va_Pc [.ref aR] (fun U => U.heap.size = sz ∧ va_P (dC, dI) vwCl [(aR, .inr (0, [.ref aL, .ref aT, .ref aN, .ref aX, .int rf, .long rc, .int rp, .int rt]))] U.heap ∧ va_K (dC, dI) vwCl [] U ∧ va_D (fun _ => True) [(aR, .inr (0, [.ref aL, .ref aT, .ref aN, .ref aX, .int rf, .long rc, .int rp, .int rt]))] ∧ NW U)) (va_Qi (fun (r : Int32) (_ : Unit) => r = o) (fun _ t => va_P (dC, dI) vwCl [(aR, .inr (0, [.ref aL, .ref aT, .ref aN, .ref aX, .int rf, .long rc, .int rp, .int rt]))] t.heap ∧ va_K (dC, dI) vwCl [] t ∧ va_D (va_A [(aR, .inr (0, [.ref aL, .ref aT, .ref aN, .ref aX, .int rf, .long rc, .int rp, .int rt]))] sz) [(aR, .inr (0, [.ref aL, .ref aT, .ref aN, .ref aX, .int rf, .long rc, .int rp, .int rt]))]) (va_A [(aR, .inr (0, [.ref aL, .ref aT, .ref aN, .ref aX, .int rf, .long rc, .int rp, .int rt]))] sz)) 0 0 (va_A [(aR, .inr (0, [.ref aL, .ref aT, .ref aN, .ref aX, .int rf, .long rc, .int rp, .int rt]))] sz) := by
  refine Met.ofW (cc := b_R_fault) (maxL := 1) (ret := (some .int)) (by decide) rfl ?_
  intro p e s m args below meth c s₁ B hml hv
  obtain ⟨rfl, hsz, hP, hK, hD0, hN⟩ := hv
  have hx := B.exec
  have hb := B.bytes
  have hr := B.returns
  have hts : ∀ w ∈ WB, w.before _ s = true := fun w h => atoms_spec (ws := w_R_fault) B.pre w (List.mem_cons_of_mem _ h)
  have hown : s.vm.findClass R_R = some m.cls := findClass_of_methodNamed B.named
  have hlocks := B.notSynchronized
  subst hsz
  have hD := hD0.self (sz := s.heap.size)
  generalize hAe : va_A [(aR, .inr (0, [.ref aL, .ref aT, .ref aN, .ref aX, .int rf, .long rc, .int rp, .int rt]))] s.heap.size = A at hD ⊢
  have hA : ∀ q : Nat, s.heap.size ≤ q → A q := fun q h => by rw [← hAe]; exact Or.inr h
  have hS : va_S A s.heap s.heap [] := va_S.rf
  have hP : va_P (dC, dI) vwCl [(aR, .inr (0, [.ref aL, .ref aT, .ref aN, .ref aX, .int rf, .long rc, .int rp, .int rt]))] s.heap := hP
  have hl := lv_entry [.ref aR] (n := 1) (Nat.le_of_ble_eq_true rfl)
  rw [lg_entry_eq]
  generalize (lg_sl [.ref aR] ++ List.replicate (1 - (lg_sl [.ref aR]).length) Slot.unset).toArray = ls at hl ⊢
  have hl : lv_has ls 1 [(0, .ref aR)] := hl
  suffices key : ∀ Q : State → Prop, Q = (MQ below (va_Qi (fun (r : Int32) (_ : Unit) => r = o) (fun _ t => va_P (dC, dI) vwCl [(aR, .inr (0, [.ref aL, .ref aT, .ref aN, .ref aX, .int rf, .long rc, .int rp, .int rt]))] t.heap ∧ va_K (dC, dI) vwCl [] t ∧ va_D A [(aR, .inr (0, [.ref aL, .ref aT, .ref aN, .ref aX, .int rf, .long rc, .int rp, .int rt]))]) A) [.ref aR].toArray s 0 0 A) → W p l e (headSpec (w_R_fault) ({ frames := 0, cells := 0, slots := 0, locals := 0 })).room s m [.ref aR].toArray below meth c s.heap [] 0 0 Q (F0 m 0 ls []) from key _ rfl
  intro Q hQ
  unfold f_R_fault at hf
  refine lv_aload_n hx hb d_R_fault_0 rfl (lv_at hl 0 rfl) ?_
  refine va_get (D := (dC, dI)) (ci := 0) (v := .int rf) (C := R_R) (T := F_R) (N := 8) hx hb hts i_R hown hK hP 0 rfl rfl 4 (by decide) (hts _ wb_322) (fun _ h9 => h9) rfl d_R_fault_1 ?_
  have ho := Option.some.inj hf
  have hP9 : va_P (dC, dI) vwCl [(aR, .inr (0, [.ref aL, .ref aT, .ref aN, .ref aX, .int rf, .long rc, .int rp, .int rt]))] s.heap := by exact hP.sub (ws' := [(aR, .inr (0, [.ref aL, .ref aT, .ref aN, .ref aX, .int rf, .long rc, .int rp, .int rt]))]) [0] rfl
  have hD9 : va_D A [(aR, .inr (0, [.ref aL, .ref aT, .ref aN, .ref aX, .int rf, .long rc, .int rp, .int rt]))] := by exact hD.sub (ws' := [(aR, .inr (0, [.ref aL, .ref aT, .ref aN, .ref aX, .int rf, .long rc, .int rp, .int rt]))]) [0] (by decide) rfl
  rw [hQ]
  exact W.iret (v := rf) hx hb hr (fun t ht hW => ⟨⟨rf, (), rfl, congrArg (fun z => z) ho, by rw [ht]; exact hP9, va_K.moved hW.alike hK, hD9⟩, hS.F ht⟩) hS.2.2 d_R_fault_4

def f_R_value (rc : Int64) : Option (Int64) := some (rc)
set_option maxHeartbeats 4000000 in
set_option maxRecDepth 100000 in
theorem c_R_value (l : Launch) (dC : Nat → ClassId) (dI : Nat → Nat → Nat) (aR aL aB aT aK aG aE aW aN aQ aX aM aY aV aC aP aO : Nat) (sz : Nat) (rf : Int32) (rc : Int64) (rp : Int32) (rt : Int32) (o : Int64) (hf : f_R_value rc = some o) : Met l y_R_value (w_R_value) ({ frames := 0, cells := 0, slots := 0, locals := 0 }) (va_Pc [.ref aR] (fun U => U.heap.size = sz ∧ va_P (dC, dI) vwCl [(aR, .inr (0, [.ref aL, .ref aT, .ref aN, .ref aX, .int rf, .long rc, .int rp, .int rt]))] U.heap ∧ va_K (dC, dI) vwCl [] U ∧ va_D (fun _ => True) [(aR, .inr (0, [.ref aL, .ref aT, .ref aN, .ref aX, .int rf, .long rc, .int rp, .int rt]))] ∧ NW U)) (va_Ql (fun (r : Int64) (_ : Unit) => r = o) (fun _ t => va_P (dC, dI) vwCl [(aR, .inr (0, [.ref aL, .ref aT, .ref aN, .ref aX, .int rf, .long rc, .int rp, .int rt]))] t.heap ∧ va_K (dC, dI) vwCl [] t ∧ va_D (va_A [(aR, .inr (0, [.ref aL, .ref aT, .ref aN, .ref aX, .int rf, .long rc, .int rp, .int rt]))] sz) [(aR, .inr (0, [.ref aL, .ref aT, .ref aN, .ref aX, .int rf, .long rc, .int rp, .int rt]))]) (va_A [(aR, .inr (0, [.ref aL, .ref aT, .ref aN, .ref aX, .int rf, .long rc, .int rp, .int rt]))] sz)) 0 0 (va_A [(aR, .inr (0, [.ref aL, .ref aT, .ref aN, .ref aX, .int rf, .long rc, .int rp, .int rt]))] sz) := by
  refine Met.ofW (cc := b_R_value) (maxL := 1) (ret := (some .long)) (by decide) rfl ?_
  intro p e s m args below meth c s₁ B hml hv
  obtain ⟨rfl, hsz, hP, hK, hD0, hN⟩ := hv
  have hx := B.exec
  have hb := B.bytes
  have hr := B.returns
  have hts : ∀ w ∈ WB, w.before _ s = true := fun w h => atoms_spec (ws := w_R_value) B.pre w (List.mem_cons_of_mem _ h)
  have hown : s.vm.findClass R_R = some m.cls := findClass_of_methodNamed B.named
  have hlocks := B.notSynchronized
  subst hsz
  have hD := hD0.self (sz := s.heap.size)
  generalize hAe : va_A [(aR, .inr (0, [.ref aL, .ref aT, .ref aN, .ref aX, .int rf, .long rc, .int rp, .int rt]))] s.heap.size = A at hD ⊢
  have hA : ∀ q : Nat, s.heap.size ≤ q → A q := fun q h => by rw [← hAe]; exact Or.inr h
  have hS : va_S A s.heap s.heap [] := va_S.rf
  have hP : va_P (dC, dI) vwCl [(aR, .inr (0, [.ref aL, .ref aT, .ref aN, .ref aX, .int rf, .long rc, .int rp, .int rt]))] s.heap := hP
  have hl := lv_entry [.ref aR] (n := 1) (Nat.le_of_ble_eq_true rfl)
  rw [lg_entry_eq]
  generalize (lg_sl [.ref aR] ++ List.replicate (1 - (lg_sl [.ref aR]).length) Slot.unset).toArray = ls at hl ⊢
  have hl : lv_has ls 1 [(0, .ref aR)] := hl
  suffices key : ∀ Q : State → Prop, Q = (MQ below (va_Ql (fun (r : Int64) (_ : Unit) => r = o) (fun _ t => va_P (dC, dI) vwCl [(aR, .inr (0, [.ref aL, .ref aT, .ref aN, .ref aX, .int rf, .long rc, .int rp, .int rt]))] t.heap ∧ va_K (dC, dI) vwCl [] t ∧ va_D A [(aR, .inr (0, [.ref aL, .ref aT, .ref aN, .ref aX, .int rf, .long rc, .int rp, .int rt]))]) A) [.ref aR].toArray s 0 0 A) → W p l e (headSpec (w_R_value) ({ frames := 0, cells := 0, slots := 0, locals := 0 })).room s m [.ref aR].toArray below meth c s.heap [] 0 0 Q (F0 m 0 ls []) from key _ rfl
  intro Q hQ
  unfold f_R_value at hf
  refine lv_aload_n hx hb d_R_value_0 rfl (lv_at hl 0 rfl) ?_
  refine va_get (D := (dC, dI)) (ci := 0) (v := .long rc) (C := R_R) (T := F_R) (N := 8) hx hb hts i_R hown hK hP 0 rfl rfl 5 (by decide) (hts _ wb_323) (fun _ h9 => h9) rfl d_R_value_1 ?_
  have ho := Option.some.inj hf
  have hP9 : va_P (dC, dI) vwCl [(aR, .inr (0, [.ref aL, .ref aT, .ref aN, .ref aX, .int rf, .long rc, .int rp, .int rt]))] s.heap := by exact hP.sub (ws' := [(aR, .inr (0, [.ref aL, .ref aT, .ref aN, .ref aX, .int rf, .long rc, .int rp, .int rt]))]) [0] rfl
  have hD9 : va_D A [(aR, .inr (0, [.ref aL, .ref aT, .ref aN, .ref aX, .int rf, .long rc, .int rp, .int rt]))] := by exact hD.sub (ws' := [(aR, .inr (0, [.ref aL, .ref aT, .ref aN, .ref aX, .int rf, .long rc, .int rp, .int rt]))]) [0] (by decide) rfl
  rw [hQ]
  exact W.lret (v := rc) hx hb hr (fun t ht hW => ⟨⟨rc, (), rfl, congrArg (fun z => z) ho, by rw [ht]; exact hP9, va_K.moved hW.alike hK, hD9⟩, hS.F ht⟩) hS.2.2 d_R_value_4

def f_R_side (rp : Int32) (rt : Int32) (p0 : Int32) : Option (Int32) := if p0 = (0 : Int32) then some (rp) else if p0 = (1 : Int32) then some (rt) else some ((-1 : Int32))
set_option maxHeartbeats 4000000 in
set_option maxRecDepth 100000 in
theorem c_R_side (l : Launch) (dC : Nat → ClassId) (dI : Nat → Nat → Nat) (aR aL aB aT aK aG aE aW aN aQ aX aM aY aV aC aP aO : Nat) (sz : Nat) (rf : Int32) (rc : Int64) (rp : Int32) (rt : Int32) (p0 : Int32) (o : Int32) (hf : f_R_side rp rt p0 = some o) : Met l y_R_side (w_R_side) ({ frames := 0, cells := 0, slots := 0, locals := 0 }) (va_Pc [.ref aR, .int p0] (fun U => U.heap.size = sz ∧ va_P (dC, dI) vwCl [(aR, .inr (0, [.ref aL, .ref aT, .ref aN, .ref aX, .int rf, .long rc, .int rp, .int rt]))] U.heap ∧ va_K (dC, dI) vwCl [] U ∧ va_D (fun _ => True) [(aR, .inr (0, [.ref aL, .ref aT, .ref aN, .ref aX, .int rf, .long rc, .int rp, .int rt]))] ∧ NW U)) (va_Qi (fun (r : Int32) (_ : Unit) => r = o) (fun _ t => va_P (dC, dI) vwCl [(aR, .inr (0, [.ref aL, .ref aT, .ref aN, .ref aX, .int rf, .long rc, .int rp, .int rt]))] t.heap ∧ va_K (dC, dI) vwCl [] t ∧ va_D (va_A [(aR, .inr (0, [.ref aL, .ref aT, .ref aN, .ref aX, .int rf, .long rc, .int rp, .int rt]))] sz) [(aR, .inr (0, [.ref aL, .ref aT, .ref aN, .ref aX, .int rf, .long rc, .int rp, .int rt]))]) (va_A [(aR, .inr (0, [.ref aL, .ref aT, .ref aN, .ref aX, .int rf, .long rc, .int rp, .int rt]))] sz)) 0 0 (va_A [(aR, .inr (0, [.ref aL, .ref aT, .ref aN, .ref aX, .int rf, .long rc, .int rp, .int rt]))] sz) := by
  refine Met.ofW (cc := b_R_side) (maxL := 2) (ret := (some .int)) (by decide) rfl ?_
  intro p e s m args below meth c s₁ B hml hv
  obtain ⟨rfl, hsz, hP, hK, hD0, hN⟩ := hv
  have hx := B.exec
  have hb := B.bytes
  have hr := B.returns
  have hts : ∀ w ∈ WB, w.before _ s = true := fun w h => atoms_spec (ws := w_R_side) B.pre w (List.mem_cons_of_mem _ h)
  have hown : s.vm.findClass R_R = some m.cls := findClass_of_methodNamed B.named
  have hlocks := B.notSynchronized
  subst hsz
  have hD := hD0.self (sz := s.heap.size)
  generalize hAe : va_A [(aR, .inr (0, [.ref aL, .ref aT, .ref aN, .ref aX, .int rf, .long rc, .int rp, .int rt]))] s.heap.size = A at hD ⊢
  have hA : ∀ q : Nat, s.heap.size ≤ q → A q := fun q h => by rw [← hAe]; exact Or.inr h
  have hS : va_S A s.heap s.heap [] := va_S.rf
  have hP : va_P (dC, dI) vwCl [(aR, .inr (0, [.ref aL, .ref aT, .ref aN, .ref aX, .int rf, .long rc, .int rp, .int rt]))] s.heap := hP
  have hl := lv_entry [.ref aR, .int p0] (n := 2) (Nat.le_of_ble_eq_true rfl)
  rw [lg_entry_eq]
  generalize (lg_sl [.ref aR, .int p0] ++ List.replicate (2 - (lg_sl [.ref aR, .int p0]).length) Slot.unset).toArray = ls at hl ⊢
  have hl : lv_has ls 2 [(0, .ref aR), (1, .int p0)] := hl
  suffices key : ∀ Q : State → Prop, Q = (MQ below (va_Qi (fun (r : Int32) (_ : Unit) => r = o) (fun _ t => va_P (dC, dI) vwCl [(aR, .inr (0, [.ref aL, .ref aT, .ref aN, .ref aX, .int rf, .long rc, .int rp, .int rt]))] t.heap ∧ va_K (dC, dI) vwCl [] t ∧ va_D A [(aR, .inr (0, [.ref aL, .ref aT, .ref aN, .ref aX, .int rf, .long rc, .int rp, .int rt]))]) A) [.ref aR, .int p0].toArray s 0 0 A) → W p l e (headSpec (w_R_side) ({ frames := 0, cells := 0, slots := 0, locals := 0 })).room s m [.ref aR, .int p0].toArray below meth c s.heap [] 0 0 Q (F0 m 0 ls []) from key _ rfl
  intro Q hQ
  unfold f_R_side at hf
  refine lv_iload_n hx hb d_R_side_0 rfl (lv_at hl 1 rfl) ?_
  refine lv_if_ne (tgt := 9) hx hb d_R_side_1 (by decide) (fun c_1 => ?_) (fun c_1 => ?_)
  · rw [if_neg c_1] at hf
    refine lv_iload_n hx hb d_R_side_9 rfl (lv_at hl 1 rfl) ?_
    refine lv_iconst (v := (1 : Int32)) hx hb d_R_side_10 (by decide) ?_
    refine lv_icmp_ne (tgt := 21) hx hb d_R_side_11 (by decide) (fun c_2 => ?_) (fun c_2 => ?_)
    · rw [if_neg c_2] at hf
      refine lv_iconst (v := (-1 : Int32)) hx hb d_R_side_21 (by decide) ?_
      have ho := Option.some.inj hf
      have hP9 : va_P (dC, dI) vwCl [(aR, .inr (0, [.ref aL, .ref aT, .ref aN, .ref aX, .int rf, .long rc, .int rp, .int rt]))] s.heap := by exact hP.sub (ws' := [(aR, .inr (0, [.ref aL, .ref aT, .ref aN, .ref aX, .int rf, .long rc, .int rp, .int rt]))]) [0] rfl
      have hD9 : va_D A [(aR, .inr (0, [.ref aL, .ref aT, .ref aN, .ref aX, .int rf, .long rc, .int rp, .int rt]))] := by exact hD.sub (ws' := [(aR, .inr (0, [.ref aL, .ref aT, .ref aN, .ref aX, .int rf, .long rc, .int rp, .int rt]))]) [0] (by decide) rfl
      rw [hQ]
      exact W.iret (v := (-1 : Int32)) hx hb hr (fun t ht hW => ⟨⟨(-1 : Int32), (), rfl, congrArg (fun z => z) ho, by rw [ht]; exact hP9, va_K.moved hW.alike hK, hD9⟩, hS.F ht⟩) hS.2.2 d_R_side_22
    · rw [if_pos c_2] at hf
      refine lv_aload_n hx hb d_R_side_14 rfl (lv_at hl 0 rfl) ?_
      refine va_get (D := (dC, dI)) (ci := 0) (v := .int rt) (C := R_R) (T := F_R) (N := 8) hx hb hts i_R hown hK hP 0 rfl rfl 7 (by decide) (hts _ wb_324) (fun _ h9 => h9) rfl d_R_side_15 ?_
      refine lv_goto (tgt := 22) hx hb d_R_side_18 (by decide) ?_
      have ho := Option.some.inj hf
      have hP9 : va_P (dC, dI) vwCl [(aR, .inr (0, [.ref aL, .ref aT, .ref aN, .ref aX, .int rf, .long rc, .int rp, .int rt]))] s.heap := by exact hP.sub (ws' := [(aR, .inr (0, [.ref aL, .ref aT, .ref aN, .ref aX, .int rf, .long rc, .int rp, .int rt]))]) [0] rfl
      have hD9 : va_D A [(aR, .inr (0, [.ref aL, .ref aT, .ref aN, .ref aX, .int rf, .long rc, .int rp, .int rt]))] := by exact hD.sub (ws' := [(aR, .inr (0, [.ref aL, .ref aT, .ref aN, .ref aX, .int rf, .long rc, .int rp, .int rt]))]) [0] (by decide) rfl
      rw [hQ]
      exact W.iret (v := rt) hx hb hr (fun t ht hW => ⟨⟨rt, (), rfl, congrArg (fun z => z) ho, by rw [ht]; exact hP9, va_K.moved hW.alike hK, hD9⟩, hS.F ht⟩) hS.2.2 d_R_side_22
  · rw [if_pos c_1] at hf
    refine lv_aload_n hx hb d_R_side_4 rfl (lv_at hl 0 rfl) ?_
    refine va_get (D := (dC, dI)) (ci := 0) (v := .int rp) (C := R_R) (T := F_R) (N := 8) hx hb hts i_R hown hK hP 0 rfl rfl 6 (by decide) (hts _ wb_325) (fun _ h9 => h9) rfl d_R_side_5 ?_
    have ho := Option.some.inj hf
    have hP9 : va_P (dC, dI) vwCl [(aR, .inr (0, [.ref aL, .ref aT, .ref aN, .ref aX, .int rf, .long rc, .int rp, .int rt]))] s.heap := by exact hP.sub (ws' := [(aR, .inr (0, [.ref aL, .ref aT, .ref aN, .ref aX, .int rf, .long rc, .int rp, .int rt]))]) [0] rfl
    have hD9 : va_D A [(aR, .inr (0, [.ref aL, .ref aT, .ref aN, .ref aX, .int rf, .long rc, .int rp, .int rt]))] := by exact hD.sub (ws' := [(aR, .inr (0, [.ref aL, .ref aT, .ref aN, .ref aX, .int rf, .long rc, .int rp, .int rt]))]) [0] (by decide) rfl
    rw [hQ]
    exact W.iret (v := rp) hx hb hr (fun t ht hW => ⟨⟨rp, (), rfl, congrArg (fun z => z) ho, by rw [ht]; exact hP9, va_K.moved hW.alike hK, hD9⟩, hS.F ht⟩) hS.2.2 d_R_side_8

def f_R_token (tn : Int32) (tk : Nat → Int32) (tb : Nat → Int32) (te : Nat → Int32) (tw : Nat → Int64) (p0 : Int32) (p1 : Int32) : Option (Int32) := if p1 = (0 : Int32) then (f_T_kindOf tn tk p0).bind (fun o_2 => some (o_2)) else (if p1 = (1 : Int32) then (f_T_beginOf tn tb p0).bind (fun o_4 => some (o_4)) else (if p1 = (2 : Int32) then (f_T_endOf tn te p0).bind (fun o_6 => some (o_6)) else (if p1 = (3 : Int32) then (f_T_lowWorthOf tn tw p0).bind (fun o_8 => some (o_8)) else (some ((-1 : Int32))))))
set_option maxHeartbeats 4000000 in
set_option maxRecDepth 100000 in
theorem c_R_token (l : Launch) (dC : Nat → ClassId) (dI : Nat → Nat → Nat) (aR aL aB aT aK aG aE aW aN aQ aX aM aY aV aC aP aO : Nat) (cK cG cE cW : ClassId) (sz : Nat) (rf : Int32) (rc : Int64) (rp : Int32) (rt : Int32) (tn : Int32) (ts : Int32) (tk : Nat → Int32) (tb : Nat → Int32) (te : Nat → Int32) (tw : Nat → Int64) (p0 : Int32) (p1 : Int32) (o : Int32) (hf : f_R_token tn tk tb te tw p0 p1 = some o) : Met l y_R_token (w_R_token) ({ frames := 2, cells := 0, slots := 0, locals := 42 }) (va_Pc [.ref aR, .int p0, .int p1] (fun U => U.heap.size = sz ∧ va_P (dC, dI) vwCl [(aR, .inr (0, [.ref aL, .ref aT, .ref aN, .ref aX, .int rf, .long rc, .int rp, .int rt])), (aT, .inr (2, [.ref aK, .ref aG, .ref aE, .ref aW, .int tn, .int ts])), (aK, .inl (cK, 1024, .inl tk)), (aG, .inl (cG, 1024, .inl tb)), (aE, .inl (cE, 1024, .inl te)), (aW, .inl (cW, 1024, .inr (.inl tw)))] U.heap ∧ va_K (dC, dI) vwCl [(cK, .byte), (cG, .int), (cE, .int), (cW, .long)] U ∧ va_D (fun _ => True) [(aR, .inr (0, [.ref aL, .ref aT, .ref aN, .ref aX, .int rf, .long rc, .int rp, .int rt])), (aT, .inr (2, [.ref aK, .ref aG, .ref aE, .ref aW, .int tn, .int ts])), (aK, .inl (cK, 1024, .inl tk)), (aG, .inl (cG, 1024, .inl tb)), (aE, .inl (cE, 1024, .inl te)), (aW, .inl (cW, 1024, .inr (.inl tw)))] ∧ NW U)) (va_Qi (fun (r : Int32) (_ : Unit) => r = o) (fun _ t => va_P (dC, dI) vwCl [(aR, .inr (0, [.ref aL, .ref aT, .ref aN, .ref aX, .int rf, .long rc, .int rp, .int rt])), (aT, .inr (2, [.ref aK, .ref aG, .ref aE, .ref aW, .int tn, .int ts])), (aK, .inl (cK, 1024, .inl tk)), (aG, .inl (cG, 1024, .inl tb)), (aE, .inl (cE, 1024, .inl te)), (aW, .inl (cW, 1024, .inr (.inl tw)))] t.heap ∧ va_K (dC, dI) vwCl [(cK, .byte), (cG, .int), (cE, .int), (cW, .long)] t ∧ va_D (va_A [(aR, .inr (0, [.ref aL, .ref aT, .ref aN, .ref aX, .int rf, .long rc, .int rp, .int rt])), (aT, .inr (2, [.ref aK, .ref aG, .ref aE, .ref aW, .int tn, .int ts])), (aK, .inl (cK, 1024, .inl tk)), (aG, .inl (cG, 1024, .inl tb)), (aE, .inl (cE, 1024, .inl te)), (aW, .inl (cW, 1024, .inr (.inl tw)))] sz) [(aR, .inr (0, [.ref aL, .ref aT, .ref aN, .ref aX, .int rf, .long rc, .int rp, .int rt])), (aT, .inr (2, [.ref aK, .ref aG, .ref aE, .ref aW, .int tn, .int ts])), (aK, .inl (cK, 1024, .inl tk)), (aG, .inl (cG, 1024, .inl tb)), (aE, .inl (cE, 1024, .inl te)), (aW, .inl (cW, 1024, .inr (.inl tw)))]) (va_A [(aR, .inr (0, [.ref aL, .ref aT, .ref aN, .ref aX, .int rf, .long rc, .int rp, .int rt])), (aT, .inr (2, [.ref aK, .ref aG, .ref aE, .ref aW, .int tn, .int ts])), (aK, .inl (cK, 1024, .inl tk)), (aG, .inl (cG, 1024, .inl tb)), (aE, .inl (cE, 1024, .inl te)), (aW, .inl (cW, 1024, .inr (.inl tw)))] sz)) 0 0 (va_A [(aR, .inr (0, [.ref aL, .ref aT, .ref aN, .ref aX, .int rf, .long rc, .int rp, .int rt])), (aT, .inr (2, [.ref aK, .ref aG, .ref aE, .ref aW, .int tn, .int ts])), (aK, .inl (cK, 1024, .inl tk)), (aG, .inl (cG, 1024, .inl tb)), (aE, .inl (cE, 1024, .inl te)), (aW, .inl (cW, 1024, .inr (.inl tw)))] sz) := by
  refine Met.ofW (cc := b_R_token) (maxL := 3) (ret := (some .int)) (by decide) rfl ?_
  intro p e s m args below meth c s₁ B hml hv
  obtain ⟨rfl, hsz, hP, hK, hD0, hN⟩ := hv
  have hx := B.exec
  have hb := B.bytes
  have hr := B.returns
  have hts : ∀ w ∈ WB, w.before _ s = true := fun w h => atoms_spec (ws := w_R_token) B.pre w (List.mem_cons_of_mem _ h)
  have hown : s.vm.findClass R_R = some m.cls := findClass_of_methodNamed B.named
  have hlocks := B.notSynchronized
  subst hsz
  have hD := hD0.self (sz := s.heap.size)
  generalize hAe : va_A [(aR, .inr (0, [.ref aL, .ref aT, .ref aN, .ref aX, .int rf, .long rc, .int rp, .int rt])), (aT, .inr (2, [.ref aK, .ref aG, .ref aE, .ref aW, .int tn, .int ts])), (aK, .inl (cK, 1024, .inl tk)), (aG, .inl (cG, 1024, .inl tb)), (aE, .inl (cE, 1024, .inl te)), (aW, .inl (cW, 1024, .inr (.inl tw)))] s.heap.size = A at hD ⊢
  have hA : ∀ q : Nat, s.heap.size ≤ q → A q := fun q h => by rw [← hAe]; exact Or.inr h
  have hS : va_S A s.heap s.heap [] := va_S.rf
  have hP : va_P (dC, dI) vwCl [(aR, .inr (0, [.ref aL, .ref aT, .ref aN, .ref aX, .int rf, .long rc, .int rp, .int rt])), (aT, .inr (2, [.ref aK, .ref aG, .ref aE, .ref aW, .int tn, .int ts])), (aK, .inl (cK, 1024, .inl tk)), (aG, .inl (cG, 1024, .inl tb)), (aE, .inl (cE, 1024, .inl te)), (aW, .inl (cW, 1024, .inr (.inl tw)))] s.heap := hP
  have hl := lv_entry [.ref aR, .int p0, .int p1] (n := 3) (Nat.le_of_ble_eq_true rfl)
  rw [lg_entry_eq]
  generalize (lg_sl [.ref aR, .int p0, .int p1] ++ List.replicate (3 - (lg_sl [.ref aR, .int p0, .int p1]).length) Slot.unset).toArray = ls at hl ⊢
  have hl : lv_has ls 3 [(0, .ref aR), (1, .int p0), (2, .int p1)] := hl
  suffices key : ∀ Q : State → Prop, Q = (MQ below (va_Qi (fun (r : Int32) (_ : Unit) => r = o) (fun _ t => va_P (dC, dI) vwCl [(aR, .inr (0, [.ref aL, .ref aT, .ref aN, .ref aX, .int rf, .long rc, .int rp, .int rt])), (aT, .inr (2, [.ref aK, .ref aG, .ref aE, .ref aW, .int tn, .int ts])), (aK, .inl (cK, 1024, .inl tk)), (aG, .inl (cG, 1024, .inl tb)), (aE, .inl (cE, 1024, .inl te)), (aW, .inl (cW, 1024, .inr (.inl tw)))] t.heap ∧ va_K (dC, dI) vwCl [(cK, .byte), (cG, .int), (cE, .int), (cW, .long)] t ∧ va_D A [(aR, .inr (0, [.ref aL, .ref aT, .ref aN, .ref aX, .int rf, .long rc, .int rp, .int rt])), (aT, .inr (2, [.ref aK, .ref aG, .ref aE, .ref aW, .int tn, .int ts])), (aK, .inl (cK, 1024, .inl tk)), (aG, .inl (cG, 1024, .inl tb)), (aE, .inl (cE, 1024, .inl te)), (aW, .inl (cW, 1024, .inr (.inl tw)))]) A) [.ref aR, .int p0, .int p1].toArray s 0 0 A) → W p l e (headSpec (w_R_token) ({ frames := 2, cells := 0, slots := 0, locals := 42 })).room s m [.ref aR, .int p0, .int p1].toArray below meth c s.heap [] 0 0 Q (F0 m 0 ls []) from key _ rfl
  intro Q hQ
  unfold f_R_token at hf
  refine lv_iload_n hx hb d_R_token_0 rfl (lv_at hl 2 rfl) ?_
  by_cases c_1 : p1 = (0 : Int32)
  · rw [if_pos c_1] at hf
    refine lv_tableIn (off := 31) (tgt := 32) hx hb d_R_token_1 (by rw [c_1]; decide) (by rw [c_1]; decide) (by rw [c_1]; first | done | rfl | decide) (by decide) ?_
    refine lv_aload_n hx hb d_R_token_32 rfl (lv_at hl 0 rfl) ?_
    refine va_get (D := (dC, dI)) (ci := 0) (v := .ref aT) (C := R_R) (T := F_R) (N := 8) hx hb hts i_R hown hK hP 0 rfl rfl 1 (by decide) (hts _ wb_326) (fun _ h9 => h9) rfl d_R_token_33 ?_
    refine lv_iload_n hx hb d_R_token_36 rfl (lv_at hl 1 rfl) ?_
    obtain ⟨o_2, hM_2, hf⟩ := bd_some hf
    refine cr_i (va_runV (As := [.int p0]) (rest := []) ⟨hx, hb, hml, hown, hts⟩ (c_T_kindOf l dC dI aT aK aG aE aW cK s.heap.size tn ts tk p0 o_2 hM_2) (cwV 1 hts (gwV wb_327 wb_40 wb_41 wb_32 wb_39) rfl rfl rfl (by decide +kernel) ⟨Nat.le_of_ble_eq_true rfl, Nat.le_of_ble_eq_true rfl⟩) (pr_V (hP.sub [1, 2] rfl) (hD.sub [1, 2] (by decide) rfl) hK hN [0] rfl (ci := 2) rfl rfl rfl) rfl rfl hl.1 rfl (lv_room (Nat.le_of_ble_eq_true rfl)) d_R_token_37 ⟨Nat.zero_le _, Nat.zero_le _⟩) hP hD hS hA (in_of [1, 2] rfl) (fun r_2 H locs hw hP hS => ?_)
    subst r_2
    have ho := Option.some.inj hf
    have hP9 : va_P (dC, dI) vwCl [(aR, .inr (0, [.ref aL, .ref aT, .ref aN, .ref aX, .int rf, .long rc, .int rp, .int rt])), (aT, .inr (2, [.ref aK, .ref aG, .ref aE, .ref aW, .int tn, .int ts])), (aK, .inl (cK, 1024, .inl tk)), (aG, .inl (cG, 1024, .inl tb)), (aE, .inl (cE, 1024, .inl te)), (aW, .inl (cW, 1024, .inr (.inl tw)))] H := by exact hP.sub (ws' := [(aR, .inr (0, [.ref aL, .ref aT, .ref aN, .ref aX, .int rf, .long rc, .int rp, .int rt])), (aT, .inr (2, [.ref aK, .ref aG, .ref aE, .ref aW, .int tn, .int ts])), (aK, .inl (cK, 1024, .inl tk)), (aG, .inl (cG, 1024, .inl tb)), (aE, .inl (cE, 1024, .inl te)), (aW, .inl (cW, 1024, .inr (.inl tw)))]) [0, 1, 2, 3, 4, 5] rfl
    have hD9 : va_D A [(aR, .inr (0, [.ref aL, .ref aT, .ref aN, .ref aX, .int rf, .long rc, .int rp, .int rt])), (aT, .inr (2, [.ref aK, .ref aG, .ref aE, .ref aW, .int tn, .int ts])), (aK, .inl (cK, 1024, .inl tk)), (aG, .inl (cG, 1024, .inl tb)), (aE, .inl (cE, 1024, .inl te)), (aW, .inl (cW, 1024, .inr (.inl tw)))] := by exact hD.sub (ws' := [(aR, .inr (0, [.ref aL, .ref aT, .ref aN, .ref aX, .int rf, .long rc, .int rp, .int rt])), (aT, .inr (2, [.ref aK, .ref aG, .ref aE, .ref aW, .int tn, .int ts])), (aK, .inl (cK, 1024, .inl tk)), (aG, .inl (cG, 1024, .inl tb)), (aE, .inl (cE, 1024, .inl te)), (aW, .inl (cW, 1024, .inr (.inl tw)))]) [0, 1, 2, 3, 4, 5] (by decide) rfl
    rw [hQ]
    exact W.iret (v := o_2) hx hb hr (fun t ht hW => ⟨⟨o_2, (), rfl, congrArg (fun z => z) ho, by rw [ht]; exact hP9, va_K.moved hW.alike hK, hD9⟩, hS.F ht⟩) hS.2.2 d_R_token_40
  rw [if_neg c_1] at hf
  by_cases c_3 : p1 = (1 : Int32)
  · rw [if_pos c_3] at hf
    refine lv_tableIn (off := 40) (tgt := 41) hx hb d_R_token_1 (by rw [c_3]; decide) (by rw [c_3]; decide) (by rw [c_3]; first | done | rfl | decide) (by decide) ?_
    refine lv_aload_n hx hb d_R_token_41 rfl (lv_at hl 0 rfl) ?_
    refine va_get (D := (dC, dI)) (ci := 0) (v := .ref aT) (C := R_R) (T := F_R) (N := 8) hx hb hts i_R hown hK hP 0 rfl rfl 1 (by decide) (hts _ wb_326) (fun _ h9 => h9) rfl d_R_token_42 ?_
    refine lv_iload_n hx hb d_R_token_45 rfl (lv_at hl 1 rfl) ?_
    obtain ⟨o_4, hM_4, hf⟩ := bd_some hf
    refine cr_i (va_runV (As := [.int p0]) (rest := []) ⟨hx, hb, hml, hown, hts⟩ (c_T_beginOf l dC dI aT aK aG aE aW cG s.heap.size tn ts tb p0 o_4 hM_4) (cwV 1 hts (gwV wb_328 wb_330 wb_331 wb_32 wb_329) rfl rfl rfl (by decide +kernel) ⟨Nat.le_of_ble_eq_true rfl, Nat.le_of_ble_eq_true rfl⟩) (pr_V (hP.sub [1, 3] rfl) (hD.sub [1, 3] (by decide) rfl) hK hN [1] rfl (ci := 2) rfl rfl rfl) rfl rfl hl.1 rfl (lv_room (Nat.le_of_ble_eq_true rfl)) d_R_token_46 ⟨Nat.zero_le _, Nat.zero_le _⟩) hP hD hS hA (in_of [1, 3] rfl) (fun r_4 H locs hw hP hS => ?_)
    subst r_4
    have ho := Option.some.inj hf
    have hP9 : va_P (dC, dI) vwCl [(aR, .inr (0, [.ref aL, .ref aT, .ref aN, .ref aX, .int rf, .long rc, .int rp, .int rt])), (aT, .inr (2, [.ref aK, .ref aG, .ref aE, .ref aW, .int tn, .int ts])), (aK, .inl (cK, 1024, .inl tk)), (aG, .inl (cG, 1024, .inl tb)), (aE, .inl (cE, 1024, .inl te)), (aW, .inl (cW, 1024, .inr (.inl tw)))] H := by exact hP.sub (ws' := [(aR, .inr (0, [.ref aL, .ref aT, .ref aN, .ref aX, .int rf, .long rc, .int rp, .int rt])), (aT, .inr (2, [.ref aK, .ref aG, .ref aE, .ref aW, .int tn, .int ts])), (aK, .inl (cK, 1024, .inl tk)), (aG, .inl (cG, 1024, .inl tb)), (aE, .inl (cE, 1024, .inl te)), (aW, .inl (cW, 1024, .inr (.inl tw)))]) [0, 1, 2, 3, 4, 5] rfl
    have hD9 : va_D A [(aR, .inr (0, [.ref aL, .ref aT, .ref aN, .ref aX, .int rf, .long rc, .int rp, .int rt])), (aT, .inr (2, [.ref aK, .ref aG, .ref aE, .ref aW, .int tn, .int ts])), (aK, .inl (cK, 1024, .inl tk)), (aG, .inl (cG, 1024, .inl tb)), (aE, .inl (cE, 1024, .inl te)), (aW, .inl (cW, 1024, .inr (.inl tw)))] := by exact hD.sub (ws' := [(aR, .inr (0, [.ref aL, .ref aT, .ref aN, .ref aX, .int rf, .long rc, .int rp, .int rt])), (aT, .inr (2, [.ref aK, .ref aG, .ref aE, .ref aW, .int tn, .int ts])), (aK, .inl (cK, 1024, .inl tk)), (aG, .inl (cG, 1024, .inl tb)), (aE, .inl (cE, 1024, .inl te)), (aW, .inl (cW, 1024, .inr (.inl tw)))]) [0, 1, 2, 3, 4, 5] (by decide) rfl
    rw [hQ]
    exact W.iret (v := o_4) hx hb hr (fun t ht hW => ⟨⟨o_4, (), rfl, congrArg (fun z => z) ho, by rw [ht]; exact hP9, va_K.moved hW.alike hK, hD9⟩, hS.F ht⟩) hS.2.2 d_R_token_49
  rw [if_neg c_3] at hf
  by_cases c_5 : p1 = (2 : Int32)
  · rw [if_pos c_5] at hf
    refine lv_tableIn (off := 49) (tgt := 50) hx hb d_R_token_1 (by rw [c_5]; decide) (by rw [c_5]; decide) (by rw [c_5]; first | done | rfl | decide) (by decide) ?_
    refine lv_aload_n hx hb d_R_token_50 rfl (lv_at hl 0 rfl) ?_
    refine va_get (D := (dC, dI)) (ci := 0) (v := .ref aT) (C := R_R) (T := F_R) (N := 8) hx hb hts i_R hown hK hP 0 rfl rfl 1 (by decide) (hts _ wb_326) (fun _ h9 => h9) rfl d_R_token_51 ?_
    refine lv_iload_n hx hb d_R_token_54 rfl (lv_at hl 1 rfl) ?_
    obtain ⟨o_6, hM_6, hf⟩ := bd_some hf
    refine cr_i (va_runV (As := [.int p0]) (rest := []) ⟨hx, hb, hml, hown, hts⟩ (c_T_endOf l dC dI aT aK aG aE aW cE s.heap.size tn ts te p0 o_6 hM_6) (cwV 1 hts (gwV wb_332 wb_334 wb_335 wb_32 wb_333) rfl rfl rfl (by decide +kernel) ⟨Nat.le_of_ble_eq_true rfl, Nat.le_of_ble_eq_true rfl⟩) (pr_V (hP.sub [1, 4] rfl) (hD.sub [1, 4] (by decide) rfl) hK hN [2] rfl (ci := 2) rfl rfl rfl) rfl rfl hl.1 rfl (lv_room (Nat.le_of_ble_eq_true rfl)) d_R_token_55 ⟨Nat.zero_le _, Nat.zero_le _⟩) hP hD hS hA (in_of [1, 4] rfl) (fun r_6 H locs hw hP hS => ?_)
    subst r_6
    have ho := Option.some.inj hf
    have hP9 : va_P (dC, dI) vwCl [(aR, .inr (0, [.ref aL, .ref aT, .ref aN, .ref aX, .int rf, .long rc, .int rp, .int rt])), (aT, .inr (2, [.ref aK, .ref aG, .ref aE, .ref aW, .int tn, .int ts])), (aK, .inl (cK, 1024, .inl tk)), (aG, .inl (cG, 1024, .inl tb)), (aE, .inl (cE, 1024, .inl te)), (aW, .inl (cW, 1024, .inr (.inl tw)))] H := by exact hP.sub (ws' := [(aR, .inr (0, [.ref aL, .ref aT, .ref aN, .ref aX, .int rf, .long rc, .int rp, .int rt])), (aT, .inr (2, [.ref aK, .ref aG, .ref aE, .ref aW, .int tn, .int ts])), (aK, .inl (cK, 1024, .inl tk)), (aG, .inl (cG, 1024, .inl tb)), (aE, .inl (cE, 1024, .inl te)), (aW, .inl (cW, 1024, .inr (.inl tw)))]) [0, 1, 2, 3, 4, 5] rfl
    have hD9 : va_D A [(aR, .inr (0, [.ref aL, .ref aT, .ref aN, .ref aX, .int rf, .long rc, .int rp, .int rt])), (aT, .inr (2, [.ref aK, .ref aG, .ref aE, .ref aW, .int tn, .int ts])), (aK, .inl (cK, 1024, .inl tk)), (aG, .inl (cG, 1024, .inl tb)), (aE, .inl (cE, 1024, .inl te)), (aW, .inl (cW, 1024, .inr (.inl tw)))] := by exact hD.sub (ws' := [(aR, .inr (0, [.ref aL, .ref aT, .ref aN, .ref aX, .int rf, .long rc, .int rp, .int rt])), (aT, .inr (2, [.ref aK, .ref aG, .ref aE, .ref aW, .int tn, .int ts])), (aK, .inl (cK, 1024, .inl tk)), (aG, .inl (cG, 1024, .inl tb)), (aE, .inl (cE, 1024, .inl te)), (aW, .inl (cW, 1024, .inr (.inl tw)))]) [0, 1, 2, 3, 4, 5] (by decide) rfl
    rw [hQ]
    exact W.iret (v := o_6) hx hb hr (fun t ht hW => ⟨⟨o_6, (), rfl, congrArg (fun z => z) ho, by rw [ht]; exact hP9, va_K.moved hW.alike hK, hD9⟩, hS.F ht⟩) hS.2.2 d_R_token_58
  rw [if_neg c_5] at hf
  by_cases c_7 : p1 = (3 : Int32)
  · rw [if_pos c_7] at hf
    refine lv_tableIn (off := 58) (tgt := 59) hx hb d_R_token_1 (by rw [c_7]; decide) (by rw [c_7]; decide) (by rw [c_7]; first | done | rfl | decide) (by decide) ?_
    refine lv_aload_n hx hb d_R_token_59 rfl (lv_at hl 0 rfl) ?_
    refine va_get (D := (dC, dI)) (ci := 0) (v := .ref aT) (C := R_R) (T := F_R) (N := 8) hx hb hts i_R hown hK hP 0 rfl rfl 1 (by decide) (hts _ wb_326) (fun _ h9 => h9) rfl d_R_token_60 ?_
    refine lv_iload_n hx hb d_R_token_63 rfl (lv_at hl 1 rfl) ?_
    obtain ⟨o_8, hM_8, hf⟩ := bd_some hf
    refine cr_i (va_runV (As := [.int p0]) (rest := []) ⟨hx, hb, hml, hown, hts⟩ (c_T_lowWorthOf l dC dI aT aK aG aE aW cW s.heap.size tn ts tw p0 o_8 hM_8) (cwV 1 hts (gwV wb_336 wb_338 wb_339 wb_32 wb_337) rfl rfl rfl (by decide +kernel) ⟨Nat.le_of_ble_eq_true rfl, Nat.le_of_ble_eq_true rfl⟩) (pr_V (hP.sub [1, 5] rfl) (hD.sub [1, 5] (by decide) rfl) hK hN [3] rfl (ci := 2) rfl rfl rfl) rfl rfl hl.1 rfl (lv_room (Nat.le_of_ble_eq_true rfl)) d_R_token_64 ⟨Nat.zero_le _, Nat.zero_le _⟩) hP hD hS hA (in_of [1, 5] rfl) (fun r_8 H locs hw hP hS => ?_)
    subst r_8
    have ho := Option.some.inj hf
    have hP9 : va_P (dC, dI) vwCl [(aR, .inr (0, [.ref aL, .ref aT, .ref aN, .ref aX, .int rf, .long rc, .int rp, .int rt])), (aT, .inr (2, [.ref aK, .ref aG, .ref aE, .ref aW, .int tn, .int ts])), (aK, .inl (cK, 1024, .inl tk)), (aG, .inl (cG, 1024, .inl tb)), (aE, .inl (cE, 1024, .inl te)), (aW, .inl (cW, 1024, .inr (.inl tw)))] H := by exact hP.sub (ws' := [(aR, .inr (0, [.ref aL, .ref aT, .ref aN, .ref aX, .int rf, .long rc, .int rp, .int rt])), (aT, .inr (2, [.ref aK, .ref aG, .ref aE, .ref aW, .int tn, .int ts])), (aK, .inl (cK, 1024, .inl tk)), (aG, .inl (cG, 1024, .inl tb)), (aE, .inl (cE, 1024, .inl te)), (aW, .inl (cW, 1024, .inr (.inl tw)))]) [0, 1, 2, 3, 4, 5] rfl
    have hD9 : va_D A [(aR, .inr (0, [.ref aL, .ref aT, .ref aN, .ref aX, .int rf, .long rc, .int rp, .int rt])), (aT, .inr (2, [.ref aK, .ref aG, .ref aE, .ref aW, .int tn, .int ts])), (aK, .inl (cK, 1024, .inl tk)), (aG, .inl (cG, 1024, .inl tb)), (aE, .inl (cE, 1024, .inl te)), (aW, .inl (cW, 1024, .inr (.inl tw)))] := by exact hD.sub (ws' := [(aR, .inr (0, [.ref aL, .ref aT, .ref aN, .ref aX, .int rf, .long rc, .int rp, .int rt])), (aT, .inr (2, [.ref aK, .ref aG, .ref aE, .ref aW, .int tn, .int ts])), (aK, .inl (cK, 1024, .inl tk)), (aG, .inl (cG, 1024, .inl tb)), (aE, .inl (cE, 1024, .inl te)), (aW, .inl (cW, 1024, .inr (.inl tw)))]) [0, 1, 2, 3, 4, 5] (by decide) rfl
    rw [hQ]
    exact W.iret (v := o_8) hx hb hr (fun t ht hW => ⟨⟨o_8, (), rfl, congrArg (fun z => z) ho, by rw [ht]; exact hP9, va_K.moved hW.alike hK, hD9⟩, hS.F ht⟩) hS.2.2 d_R_token_67
  rw [if_neg c_7] at hf
  refine lv_tableOut (tgt := 68) hx hb d_R_token_1 (by have q_1 := lv_neT c_1 (a := 0) (by decide); have q_3 := lv_neT c_3 (a := 1) (by decide); have q_5 := lv_neT c_5 (a := 2) (by decide); have q_7 := lv_neT c_7 (a := 3) (by decide); omega) (by decide) ?_
  refine lv_iconst (v := (-1 : Int32)) hx hb d_R_token_68 (by decide) ?_
  have ho := Option.some.inj hf
  have hP9 : va_P (dC, dI) vwCl [(aR, .inr (0, [.ref aL, .ref aT, .ref aN, .ref aX, .int rf, .long rc, .int rp, .int rt])), (aT, .inr (2, [.ref aK, .ref aG, .ref aE, .ref aW, .int tn, .int ts])), (aK, .inl (cK, 1024, .inl tk)), (aG, .inl (cG, 1024, .inl tb)), (aE, .inl (cE, 1024, .inl te)), (aW, .inl (cW, 1024, .inr (.inl tw)))] s.heap := by exact hP.sub (ws' := [(aR, .inr (0, [.ref aL, .ref aT, .ref aN, .ref aX, .int rf, .long rc, .int rp, .int rt])), (aT, .inr (2, [.ref aK, .ref aG, .ref aE, .ref aW, .int tn, .int ts])), (aK, .inl (cK, 1024, .inl tk)), (aG, .inl (cG, 1024, .inl tb)), (aE, .inl (cE, 1024, .inl te)), (aW, .inl (cW, 1024, .inr (.inl tw)))]) [0, 1, 2, 3, 4, 5] rfl
  have hD9 : va_D A [(aR, .inr (0, [.ref aL, .ref aT, .ref aN, .ref aX, .int rf, .long rc, .int rp, .int rt])), (aT, .inr (2, [.ref aK, .ref aG, .ref aE, .ref aW, .int tn, .int ts])), (aK, .inl (cK, 1024, .inl tk)), (aG, .inl (cG, 1024, .inl tb)), (aE, .inl (cE, 1024, .inl te)), (aW, .inl (cW, 1024, .inr (.inl tw)))] := by exact hD.sub (ws' := [(aR, .inr (0, [.ref aL, .ref aT, .ref aN, .ref aX, .int rf, .long rc, .int rp, .int rt])), (aT, .inr (2, [.ref aK, .ref aG, .ref aE, .ref aW, .int tn, .int ts])), (aK, .inl (cK, 1024, .inl tk)), (aG, .inl (cG, 1024, .inl tb)), (aE, .inl (cE, 1024, .inl te)), (aW, .inl (cW, 1024, .inr (.inl tw)))]) [0, 1, 2, 3, 4, 5] (by decide) rfl
  rw [hQ]
  exact W.iret (v := (-1 : Int32)) hx hb hr (fun t ht hW => ⟨⟨(-1 : Int32), (), rfl, congrArg (fun z => z) ho, by rw [ht]; exact hP9, va_K.moved hW.alike hK, hD9⟩, hS.F ht⟩) hS.2.2 d_R_token_69

def f_R_kindOfLatest (rp : Int32) (rt : Int32) : Option (Int32) := if rp = (-1 : Int32) then some ((0 : Int32)) else if rt = (-1 : Int32) then some ((1 : Int32)) else some ((2 : Int32))
set_option maxHeartbeats 4000000 in
set_option maxRecDepth 100000 in
theorem c_R_kindOfLatest (l : Launch) (dC : Nat → ClassId) (dI : Nat → Nat → Nat) (aR aL aB aT aK aG aE aW aN aQ aX aM aY aV aC aP aO : Nat) (sz : Nat) (rf : Int32) (rc : Int64) (rp : Int32) (rt : Int32) (o : Int32) (hf : f_R_kindOfLatest rp rt = some o) : Met l y_R_kindOfLatest (w_R_kindOfLatest) ({ frames := 0, cells := 0, slots := 0, locals := 0 }) (va_Pc [.ref aR] (fun U => U.heap.size = sz ∧ va_P (dC, dI) vwCl [(aR, .inr (0, [.ref aL, .ref aT, .ref aN, .ref aX, .int rf, .long rc, .int rp, .int rt]))] U.heap ∧ va_K (dC, dI) vwCl [] U ∧ va_D (fun _ => True) [(aR, .inr (0, [.ref aL, .ref aT, .ref aN, .ref aX, .int rf, .long rc, .int rp, .int rt]))] ∧ NW U)) (va_Qi (fun (r : Int32) (_ : Unit) => r = o) (fun _ t => va_P (dC, dI) vwCl [(aR, .inr (0, [.ref aL, .ref aT, .ref aN, .ref aX, .int rf, .long rc, .int rp, .int rt]))] t.heap ∧ va_K (dC, dI) vwCl [] t ∧ va_D (va_A [(aR, .inr (0, [.ref aL, .ref aT, .ref aN, .ref aX, .int rf, .long rc, .int rp, .int rt]))] sz) [(aR, .inr (0, [.ref aL, .ref aT, .ref aN, .ref aX, .int rf, .long rc, .int rp, .int rt]))]) (va_A [(aR, .inr (0, [.ref aL, .ref aT, .ref aN, .ref aX, .int rf, .long rc, .int rp, .int rt]))] sz)) 0 0 (va_A [(aR, .inr (0, [.ref aL, .ref aT, .ref aN, .ref aX, .int rf, .long rc, .int rp, .int rt]))] sz) := by
  refine Met.ofW (cc := b_R_kindOfLatest) (maxL := 1) (ret := (some .int)) (by decide) rfl ?_
  intro p e s m args below meth c s₁ B hml hv
  obtain ⟨rfl, hsz, hP, hK, hD0, hN⟩ := hv
  have hx := B.exec
  have hb := B.bytes
  have hr := B.returns
  have hts : ∀ w ∈ WB, w.before _ s = true := fun w h => atoms_spec (ws := w_R_kindOfLatest) B.pre w (List.mem_cons_of_mem _ h)
  have hown : s.vm.findClass R_R = some m.cls := findClass_of_methodNamed B.named
  have hlocks := B.notSynchronized
  subst hsz
  have hD := hD0.self (sz := s.heap.size)
  generalize hAe : va_A [(aR, .inr (0, [.ref aL, .ref aT, .ref aN, .ref aX, .int rf, .long rc, .int rp, .int rt]))] s.heap.size = A at hD ⊢
  have hA : ∀ q : Nat, s.heap.size ≤ q → A q := fun q h => by rw [← hAe]; exact Or.inr h
  have hS : va_S A s.heap s.heap [] := va_S.rf
  have hP : va_P (dC, dI) vwCl [(aR, .inr (0, [.ref aL, .ref aT, .ref aN, .ref aX, .int rf, .long rc, .int rp, .int rt]))] s.heap := hP
  have hl := lv_entry [.ref aR] (n := 1) (Nat.le_of_ble_eq_true rfl)
  rw [lg_entry_eq]
  generalize (lg_sl [.ref aR] ++ List.replicate (1 - (lg_sl [.ref aR]).length) Slot.unset).toArray = ls at hl ⊢
  have hl : lv_has ls 1 [(0, .ref aR)] := hl
  suffices key : ∀ Q : State → Prop, Q = (MQ below (va_Qi (fun (r : Int32) (_ : Unit) => r = o) (fun _ t => va_P (dC, dI) vwCl [(aR, .inr (0, [.ref aL, .ref aT, .ref aN, .ref aX, .int rf, .long rc, .int rp, .int rt]))] t.heap ∧ va_K (dC, dI) vwCl [] t ∧ va_D A [(aR, .inr (0, [.ref aL, .ref aT, .ref aN, .ref aX, .int rf, .long rc, .int rp, .int rt]))]) A) [.ref aR].toArray s 0 0 A) → W p l e (headSpec (w_R_kindOfLatest) ({ frames := 0, cells := 0, slots := 0, locals := 0 })).room s m [.ref aR].toArray below meth c s.heap [] 0 0 Q (F0 m 0 ls []) from key _ rfl
  intro Q hQ
  unfold f_R_kindOfLatest at hf
  refine lv_aload_n hx hb d_R_kindOfLatest_0 rfl (lv_at hl 0 rfl) ?_
  refine va_get (D := (dC, dI)) (ci := 0) (v := .int rp) (C := R_R) (T := F_R) (N := 8) hx hb hts i_R hown hK hP 0 rfl rfl 6 (by decide) (hts _ wb_325) (fun _ h9 => h9) rfl d_R_kindOfLatest_1 ?_
  refine lv_iconst (v := (-1 : Int32)) hx hb d_R_kindOfLatest_4 (by decide) ?_
  refine lv_icmp_ne (tgt := 10) hx hb d_R_kindOfLatest_5 (by decide) (fun c_1 => ?_) (fun c_1 => ?_)
  · rw [if_neg c_1] at hf
    refine lv_aload_n hx hb d_R_kindOfLatest_10 rfl (lv_at hl 0 rfl) ?_
    refine va_get (D := (dC, dI)) (ci := 0) (v := .int rt) (C := R_R) (T := F_R) (N := 8) hx hb hts i_R hown hK hP 0 rfl rfl 7 (by decide) (hts _ wb_324) (fun _ h9 => h9) rfl d_R_kindOfLatest_11 ?_
    refine lv_iconst (v := (-1 : Int32)) hx hb d_R_kindOfLatest_14 (by decide) ?_
    refine lv_icmp_ne (tgt := 22) hx hb d_R_kindOfLatest_15 (by decide) (fun c_2 => ?_) (fun c_2 => ?_)
    · rw [if_neg c_2] at hf
      refine lv_iconst (v := (2 : Int32)) hx hb d_R_kindOfLatest_22 (by decide) ?_
      have ho := Option.some.inj hf
      have hP9 : va_P (dC, dI) vwCl [(aR, .inr (0, [.ref aL, .ref aT, .ref aN, .ref aX, .int rf, .long rc, .int rp, .int rt]))] s.heap := by exact hP.sub (ws' := [(aR, .inr (0, [.ref aL, .ref aT, .ref aN, .ref aX, .int rf, .long rc, .int rp, .int rt]))]) [0] rfl
      have hD9 : va_D A [(aR, .inr (0, [.ref aL, .ref aT, .ref aN, .ref aX, .int rf, .long rc, .int rp, .int rt]))] := by exact hD.sub (ws' := [(aR, .inr (0, [.ref aL, .ref aT, .ref aN, .ref aX, .int rf, .long rc, .int rp, .int rt]))]) [0] (by decide) rfl
      rw [hQ]
      exact W.iret (v := (2 : Int32)) hx hb hr (fun t ht hW => ⟨⟨(2 : Int32), (), rfl, congrArg (fun z => z) ho, by rw [ht]; exact hP9, va_K.moved hW.alike hK, hD9⟩, hS.F ht⟩) hS.2.2 d_R_kindOfLatest_23
    · rw [if_pos c_2] at hf
      refine lv_iconst (v := (1 : Int32)) hx hb d_R_kindOfLatest_18 (by decide) ?_
      refine lv_goto (tgt := 23) hx hb d_R_kindOfLatest_19 (by decide) ?_
      have ho := Option.some.inj hf
      have hP9 : va_P (dC, dI) vwCl [(aR, .inr (0, [.ref aL, .ref aT, .ref aN, .ref aX, .int rf, .long rc, .int rp, .int rt]))] s.heap := by exact hP.sub (ws' := [(aR, .inr (0, [.ref aL, .ref aT, .ref aN, .ref aX, .int rf, .long rc, .int rp, .int rt]))]) [0] rfl
      have hD9 : va_D A [(aR, .inr (0, [.ref aL, .ref aT, .ref aN, .ref aX, .int rf, .long rc, .int rp, .int rt]))] := by exact hD.sub (ws' := [(aR, .inr (0, [.ref aL, .ref aT, .ref aN, .ref aX, .int rf, .long rc, .int rp, .int rt]))]) [0] (by decide) rfl
      rw [hQ]
      exact W.iret (v := (1 : Int32)) hx hb hr (fun t ht hW => ⟨⟨(1 : Int32), (), rfl, congrArg (fun z => z) ho, by rw [ht]; exact hP9, va_K.moved hW.alike hK, hD9⟩, hS.F ht⟩) hS.2.2 d_R_kindOfLatest_23
  · rw [if_pos c_1] at hf
    refine lv_iconst (v := (0 : Int32)) hx hb d_R_kindOfLatest_8 (by decide) ?_
    have ho := Option.some.inj hf
    have hP9 : va_P (dC, dI) vwCl [(aR, .inr (0, [.ref aL, .ref aT, .ref aN, .ref aX, .int rf, .long rc, .int rp, .int rt]))] s.heap := by exact hP.sub (ws' := [(aR, .inr (0, [.ref aL, .ref aT, .ref aN, .ref aX, .int rf, .long rc, .int rp, .int rt]))]) [0] rfl
    have hD9 : va_D A [(aR, .inr (0, [.ref aL, .ref aT, .ref aN, .ref aX, .int rf, .long rc, .int rp, .int rt]))] := by exact hD.sub (ws' := [(aR, .inr (0, [.ref aL, .ref aT, .ref aN, .ref aX, .int rf, .long rc, .int rp, .int rt]))]) [0] (by decide) rfl
    rw [hQ]
    exact W.iret (v := (0 : Int32)) hx hb hr (fun t ht hW => ⟨⟨(0 : Int32), (), rfl, congrArg (fun z => z) ho, by rw [ht]; exact hP9, va_K.moved hW.alike hK, hD9⟩, hS.F ht⟩) hS.2.2 d_R_kindOfLatest_9
