theorem d_T_size_0 : decode b_T_size 0 = .ok (.aload_n 0, 1) := by decide +kernel
theorem d_T_size_1 : decode b_T_size 1 = .ok (.getfield 26, 3) := by decide +kernel
theorem d_T_size_4 : decode b_T_size 4 = .ok (.ireturn, 1) := by decide +kernel
theorem d_T_areSound_0 : decode b_T_areSound 0 = .ok (.aload_n 0, 1) := by decide +kernel
theorem d_T_areSound_1 : decode b_T_areSound 1 = .ok (.getfield 30, 3) := by decide +kernel
theorem d_T_areSound_4 : decode b_T_areSound 4 = .ok (.ireturn, 1) := by decide +kernel
theorem d_T_has_0 : decode b_T_has 0 = .ok (.iload_n 1, 1) := by decide +kernel
theorem d_T_has_1 : decode b_T_has 1 = .ok (.ifCond .lt 15, 3) := by decide +kernel
theorem d_T_has_4 : decode b_T_has 4 = .ok (.iload_n 1, 1) := by decide +kernel
theorem d_T_has_5 : decode b_T_has 5 = .ok (.aload_n 0, 1) := by decide +kernel
theorem d_T_has_6 : decode b_T_has 6 = .ok (.getfield 26, 3) := by decide +kernel
theorem d_T_has_9 : decode b_T_has 9 = .ok (.if_icmp .ge 7, 3) := by decide +kernel
theorem d_T_has_12 : decode b_T_has 12 = .ok (.iconst 1, 1) := by decide +kernel
theorem d_T_has_13 : decode b_T_has 13 = .ok (.goto 4, 3) := by decide +kernel
theorem d_T_has_16 : decode b_T_has 16 = .ok (.iconst 0, 1) := by decide +kernel
theorem d_T_has_17 : decode b_T_has 17 = .ok (.ireturn, 1) := by decide +kernel
theorem d_T_kindOf_0 : decode b_T_kindOf 0 = .ok (.aload_n 0, 1) := by decide +kernel
theorem d_T_kindOf_1 : decode b_T_kindOf 1 = .ok (.iload_n 1, 1) := by decide +kernel
theorem d_T_kindOf_2 : decode b_T_kindOf 2 = .ok (.invokevirtual 53, 3) := by decide +kernel
theorem d_T_kindOf_5 : decode b_T_kindOf 5 = .ok (.ifCond .eq 12, 3) := by decide +kernel
theorem d_T_kindOf_8 : decode b_T_kindOf 8 = .ok (.aload_n 0, 1) := by decide +kernel
theorem d_T_kindOf_9 : decode b_T_kindOf 9 = .ok (.getfield 9, 3) := by decide +kernel
theorem d_T_kindOf_12 : decode b_T_kindOf 12 = .ok (.iload_n 1, 1) := by decide +kernel
theorem d_T_kindOf_13 : decode b_T_kindOf 13 = .ok (.baload, 1) := by decide +kernel
theorem d_T_kindOf_14 : decode b_T_kindOf 14 = .ok (.goto 4, 3) := by decide +kernel
theorem d_T_kindOf_17 : decode b_T_kindOf 17 = .ok (.iconst (-1), 1) := by decide +kernel
theorem d_T_kindOf_18 : decode b_T_kindOf 18 = .ok (.ireturn, 1) := by decide +kernel
theorem d_T_beginOf_0 : decode b_T_beginOf 0 = .ok (.aload_n 0, 1) := by decide +kernel
theorem d_T_beginOf_1 : decode b_T_beginOf 1 = .ok (.iload_n 1, 1) := by decide +kernel
theorem d_T_beginOf_2 : decode b_T_beginOf 2 = .ok (.invokevirtual 53, 3) := by decide +kernel
theorem d_T_beginOf_5 : decode b_T_beginOf 5 = .ok (.ifCond .eq 12, 3) := by decide +kernel
theorem d_T_beginOf_8 : decode b_T_beginOf 8 = .ok (.aload_n 0, 1) := by decide +kernel
theorem d_T_beginOf_9 : decode b_T_beginOf 9 = .ok (.getfield 15, 3) := by decide +kernel
theorem d_T_beginOf_12 : decode b_T_beginOf 12 = .ok (.iload_n 1, 1) := by decide +kernel
theorem d_T_beginOf_13 : decode b_T_beginOf 13 = .ok (.iaload, 1) := by decide +kernel
theorem d_T_beginOf_14 : decode b_T_beginOf 14 = .ok (.goto 4, 3) := by decide +kernel
theorem d_T_beginOf_17 : decode b_T_beginOf 17 = .ok (.iconst (-1), 1) := by decide +kernel
theorem d_T_beginOf_18 : decode b_T_beginOf 18 = .ok (.ireturn, 1) := by decide +kernel
theorem d_T_endOf_0 : decode b_T_endOf 0 = .ok (.aload_n 0, 1) := by decide +kernel
theorem d_T_endOf_1 : decode b_T_endOf 1 = .ok (.iload_n 1, 1) := by decide +kernel
theorem d_T_endOf_2 : decode b_T_endOf 2 = .ok (.invokevirtual 53, 3) := by decide +kernel
theorem d_T_endOf_5 : decode b_T_endOf 5 = .ok (.ifCond .eq 12, 3) := by decide +kernel
theorem d_T_endOf_8 : decode b_T_endOf 8 = .ok (.aload_n 0, 1) := by decide +kernel
theorem d_T_endOf_9 : decode b_T_endOf 9 = .ok (.getfield 19, 3) := by decide +kernel
theorem d_T_endOf_12 : decode b_T_endOf 12 = .ok (.iload_n 1, 1) := by decide +kernel
theorem d_T_endOf_13 : decode b_T_endOf 13 = .ok (.iaload, 1) := by decide +kernel
theorem d_T_endOf_14 : decode b_T_endOf 14 = .ok (.goto 4, 3) := by decide +kernel
theorem d_T_endOf_17 : decode b_T_endOf 17 = .ok (.iconst (-1), 1) := by decide +kernel
theorem d_T_endOf_18 : decode b_T_endOf 18 = .ok (.ireturn, 1) := by decide +kernel
theorem d_T_worthOf_0 : decode b_T_worthOf 0 = .ok (.aload_n 0, 1) := by decide +kernel
theorem d_T_worthOf_1 : decode b_T_worthOf 1 = .ok (.iload_n 1, 1) := by decide +kernel
theorem d_T_worthOf_2 : decode b_T_worthOf 2 = .ok (.invokevirtual 53, 3) := by decide +kernel
theorem d_T_worthOf_5 : decode b_T_worthOf 5 = .ok (.ifCond .eq 12, 3) := by decide +kernel
theorem d_T_worthOf_8 : decode b_T_worthOf 8 = .ok (.aload_n 0, 1) := by decide +kernel
theorem d_T_worthOf_9 : decode b_T_worthOf 9 = .ok (.getfield 22, 3) := by decide +kernel
theorem d_T_worthOf_12 : decode b_T_worthOf 12 = .ok (.iload_n 1, 1) := by decide +kernel
theorem d_T_worthOf_13 : decode b_T_worthOf 13 = .ok (.laload, 1) := by decide +kernel
theorem d_T_worthOf_14 : decode b_T_worthOf 14 = .ok (.goto 4, 3) := by decide +kernel
theorem d_T_worthOf_17 : decode b_T_worthOf 17 = .ok (.lconst 0, 1) := by decide +kernel
theorem d_T_worthOf_18 : decode b_T_worthOf 18 = .ok (.lreturn, 1) := by decide +kernel
theorem d_T_lowWorthOf_0 : decode b_T_lowWorthOf 0 = .ok (.aload_n 0, 1) := by decide +kernel
theorem d_T_lowWorthOf_1 : decode b_T_lowWorthOf 1 = .ok (.iload_n 1, 1) := by decide +kernel
theorem d_T_lowWorthOf_2 : decode b_T_lowWorthOf 2 = .ok (.invokevirtual 53, 3) := by decide +kernel
theorem d_T_lowWorthOf_5 : decode b_T_lowWorthOf 5 = .ok (.ifCond .eq 17, 3) := by decide +kernel
theorem d_T_lowWorthOf_8 : decode b_T_lowWorthOf 8 = .ok (.aload_n 0, 1) := by decide +kernel
theorem d_T_lowWorthOf_9 : decode b_T_lowWorthOf 9 = .ok (.getfield 22, 3) := by decide +kernel
theorem d_T_lowWorthOf_12 : decode b_T_lowWorthOf 12 = .ok (.iload_n 1, 1) := by decide +kernel
theorem d_T_lowWorthOf_13 : decode b_T_lowWorthOf 13 = .ok (.laload, 1) := by decide +kernel
theorem d_T_lowWorthOf_14 : decode b_T_lowWorthOf 14 = .ok (.ldc2_w 57, 3) := by decide +kernel
theorem d_T_lowWorthOf_17 : decode b_T_lowWorthOf 17 = .ok (.land, 1) := by decide +kernel
theorem d_T_lowWorthOf_18 : decode b_T_lowWorthOf 18 = .ok (.l2i, 1) := by decide +kernel
theorem d_T_lowWorthOf_19 : decode b_T_lowWorthOf 19 = .ok (.goto 4, 3) := by decide +kernel
theorem d_T_lowWorthOf_22 : decode b_T_lowWorthOf 22 = .ok (.iconst (-1), 1) := by decide +kernel
theorem d_T_lowWorthOf_23 : decode b_T_lowWorthOf 23 = .ok (.ireturn, 1) := by decide +kernel
theorem d_T_signOf_0 : decode b_T_signOf 0 = .ok (.aload_n 0, 1) := by decide +kernel
theorem d_T_signOf_1 : decode b_T_signOf 1 = .ok (.iload_n 1, 1) := by decide +kernel
theorem d_T_signOf_2 : decode b_T_signOf 2 = .ok (.invokevirtual 49, 3) := by decide +kernel
theorem d_T_signOf_5 : decode b_T_signOf 5 = .ok (.iconst 4, 1) := by decide +kernel
theorem d_T_signOf_6 : decode b_T_signOf 6 = .ok (.if_icmp .ne 12, 3) := by decide +kernel
theorem d_T_signOf_9 : decode b_T_signOf 9 = .ok (.aload_n 0, 1) := by decide +kernel
theorem d_T_signOf_10 : decode b_T_signOf 10 = .ok (.iload_n 1, 1) := by decide +kernel
theorem d_T_signOf_11 : decode b_T_signOf 11 = .ok (.invokevirtual 59, 3) := by decide +kernel
theorem d_T_signOf_14 : decode b_T_signOf 14 = .ok (.l2i, 1) := by decide +kernel
theorem d_T_signOf_15 : decode b_T_signOf 15 = .ok (.goto 4, 3) := by decide +kernel
theorem d_T_signOf_18 : decode b_T_signOf 18 = .ok (.iconst 0, 1) := by decide +kernel
theorem d_T_signOf_19 : decode b_T_signOf 19 = .ok (.ireturn, 1) := by decide +kernel
theorem d_T_areJustOneName_0 : decode b_T_areJustOneName 0 = .ok (.aload_n 0, 1) := by decide +kernel
theorem d_T_areJustOneName_1 : decode b_T_areJustOneName 1 = .ok (.getfield 30, 3) := by decide +kernel
theorem d_T_areJustOneName_4 : decode b_T_areJustOneName 4 = .ok (.ifCond .eq 24, 3) := by decide +kernel
theorem d_T_areJustOneName_7 : decode b_T_areJustOneName 7 = .ok (.aload_n 0, 1) := by decide +kernel
theorem d_T_areJustOneName_8 : decode b_T_areJustOneName 8 = .ok (.getfield 26, 3) := by decide +kernel
theorem d_T_areJustOneName_11 : decode b_T_areJustOneName 11 = .ok (.iconst 1, 1) := by decide +kernel
theorem d_T_areJustOneName_12 : decode b_T_areJustOneName 12 = .ok (.if_icmp .ne 16, 3) := by decide +kernel
theorem d_T_areJustOneName_15 : decode b_T_areJustOneName 15 = .ok (.aload_n 0, 1) := by decide +kernel
theorem d_T_areJustOneName_16 : decode b_T_areJustOneName 16 = .ok (.iconst 0, 1) := by decide +kernel
theorem d_T_areJustOneName_17 : decode b_T_areJustOneName 17 = .ok (.invokevirtual 49, 3) := by decide +kernel
theorem d_T_areJustOneName_20 : decode b_T_areJustOneName 20 = .ok (.iconst 1, 1) := by decide +kernel
theorem d_T_areJustOneName_21 : decode b_T_areJustOneName 21 = .ok (.if_icmp .ne 7, 3) := by decide +kernel
theorem d_T_areJustOneName_24 : decode b_T_areJustOneName 24 = .ok (.iconst 1, 1) := by decide +kernel
theorem d_T_areJustOneName_25 : decode b_T_areJustOneName 25 = .ok (.goto 4, 3) := by decide +kernel
theorem d_T_areJustOneName_28 : decode b_T_areJustOneName 28 = .ok (.iconst 0, 1) := by decide +kernel
theorem d_T_areJustOneName_29 : decode b_T_areJustOneName 29 = .ok (.ireturn, 1) := by decide +kernel
theorem d_T_keep_0 : decode b_T_keep 0 = .ok (.aload_n 0, 1) := by decide +kernel
theorem d_T_keep_1 : decode b_T_keep 1 = .ok (.getfield 26, 3) := by decide +kernel
theorem d_T_keep_4 : decode b_T_keep 4 = .ok (.sipush 1024, 3) := by decide +kernel
theorem d_T_keep_7 : decode b_T_keep 7 = .ok (.if_icmp .lt 5, 3) := by decide +kernel
theorem d_T_keep_10 : decode b_T_keep 10 = .ok (.iconst (-1), 1) := by decide +kernel
theorem d_T_keep_11 : decode b_T_keep 11 = .ok (.ireturn, 1) := by decide +kernel
theorem d_T_keep_12 : decode b_T_keep 12 = .ok (.aload_n 0, 1) := by decide +kernel
theorem d_T_keep_13 : decode b_T_keep 13 = .ok (.getfield 9, 3) := by decide +kernel
theorem d_T_keep_16 : decode b_T_keep 16 = .ok (.aload_n 0, 1) := by decide +kernel
theorem d_T_keep_17 : decode b_T_keep 17 = .ok (.getfield 26, 3) := by decide +kernel
theorem d_T_keep_20 : decode b_T_keep 20 = .ok (.iload_n 1, 1) := by decide +kernel
theorem d_T_keep_21 : decode b_T_keep 21 = .ok (.i2b, 1) := by decide +kernel
theorem d_T_keep_22 : decode b_T_keep 22 = .ok (.bastore, 1) := by decide +kernel
theorem d_T_keep_23 : decode b_T_keep 23 = .ok (.aload_n 0, 1) := by decide +kernel
theorem d_T_keep_24 : decode b_T_keep 24 = .ok (.getfield 15, 3) := by decide +kernel
theorem d_T_keep_27 : decode b_T_keep 27 = .ok (.aload_n 0, 1) := by decide +kernel
theorem d_T_keep_28 : decode b_T_keep 28 = .ok (.getfield 26, 3) := by decide +kernel
theorem d_T_keep_31 : decode b_T_keep 31 = .ok (.iload_n 2, 1) := by decide +kernel
theorem d_T_keep_32 : decode b_T_keep 32 = .ok (.iastore, 1) := by decide +kernel
theorem d_T_keep_33 : decode b_T_keep 33 = .ok (.aload_n 0, 1) := by decide +kernel
theorem d_T_keep_34 : decode b_T_keep 34 = .ok (.getfield 19, 3) := by decide +kernel
theorem d_T_keep_37 : decode b_T_keep 37 = .ok (.aload_n 0, 1) := by decide +kernel
theorem d_T_keep_38 : decode b_T_keep 38 = .ok (.getfield 26, 3) := by decide +kernel
theorem d_T_keep_41 : decode b_T_keep 41 = .ok (.iload_n 3, 1) := by decide +kernel
theorem d_T_keep_42 : decode b_T_keep 42 = .ok (.iastore, 1) := by decide +kernel
theorem d_T_keep_43 : decode b_T_keep 43 = .ok (.aload_n 0, 1) := by decide +kernel
theorem d_T_keep_44 : decode b_T_keep 44 = .ok (.getfield 22, 3) := by decide +kernel
theorem d_T_keep_47 : decode b_T_keep 47 = .ok (.aload_n 0, 1) := by decide +kernel
theorem d_T_keep_48 : decode b_T_keep 48 = .ok (.getfield 26, 3) := by decide +kernel
theorem d_T_keep_51 : decode b_T_keep 51 = .ok (.lload 4, 2) := by decide +kernel
theorem d_T_keep_53 : decode b_T_keep 53 = .ok (.lastore, 1) := by decide +kernel
theorem d_T_keep_54 : decode b_T_keep 54 = .ok (.aload_n 0, 1) := by decide +kernel
theorem d_T_keep_55 : decode b_T_keep 55 = .ok (.dup, 1) := by decide +kernel
theorem d_T_keep_56 : decode b_T_keep 56 = .ok (.getfield 26, 3) := by decide +kernel
theorem d_T_keep_59 : decode b_T_keep 59 = .ok (.iconst 1, 1) := by decide +kernel
theorem d_T_keep_60 : decode b_T_keep 60 = .ok (.iadd, 1) := by decide +kernel
theorem d_T_keep_61 : decode b_T_keep 61 = .ok (.putfield 26, 3) := by decide +kernel
theorem d_T_keep_64 : decode b_T_keep 64 = .ok (.iload_n 3, 1) := by decide +kernel
theorem d_T_keep_65 : decode b_T_keep 65 = .ok (.ireturn, 1) := by decide +kernel
theorem wb_26 : Cond.fieldLink R_T 26 R_T "count" "I" ∈ WB := wbm (i := 106) (by decide +kernel) rfl
theorem wb_27 : Cond.fieldLink R_T 30 R_T "sound" "Z" ∈ WB := wbm (i := 107) (by decide +kernel) rfl
theorem wb_28 : Cond.methodLink R_T 53 y_T_has ∈ WB := wbm (i := 314) (by decide +kernel) rfl
theorem wb_29 : Cond.code y_T_has b_T_has 2 (some .boolean) ∈ WB := wbm (i := 317) (by decide +kernel) rfl
theorem wb_30 : Cond.instanceMethod y_T_has ∈ WB := wbm (i := 316) (by decide +kernel) rfl
theorem wb_31 : Cond.selects R_T y_T_has y_T_has ∈ WB := wbm (i := 8) (by decide +kernel) rfl
theorem wb_32 : Cond.initialized R_T ∈ WB := wbm (i := 52) (by decide +kernel) rfl
theorem wb_33 : Cond.fieldLink R_T 9 R_T "kinds" "[B" ∈ WB := wbm (i := 102) (by decide +kernel) rfl
theorem wb_34 : Cond.fieldLink R_T 15 R_T "begins" "[I" ∈ WB := wbm (i := 103) (by decide +kernel) rfl
theorem wb_35 : Cond.fieldLink R_T 19 R_T "ends" "[I" ∈ WB := wbm (i := 104) (by decide +kernel) rfl
theorem wb_36 : Cond.fieldLink R_T 22 R_T "worths" "[J" ∈ WB := wbm (i := 105) (by decide +kernel) rfl
theorem wb_37 : Cond.constantLong R_T 57 (2147483647 : Int64) ∈ WB := wbm (i := 709) (by decide +kernel) rfl
theorem wb_38 : Cond.methodLink R_T 49 y_T_kindOf ∈ WB := wbm (i := 310) (by decide +kernel) rfl
theorem wb_39 : Cond.code y_T_kindOf b_T_kindOf 2 (some .int) ∈ WB := wbm (i := 313) (by decide +kernel) rfl
theorem wb_40 : Cond.instanceMethod y_T_kindOf ∈ WB := wbm (i := 311) (by decide +kernel) rfl
theorem wb_41 : Cond.selects R_T y_T_kindOf y_T_kindOf ∈ WB := wbm (i := 312) (by decide +kernel) rfl
theorem wb_42 : Cond.methodLink R_T 59 y_T_worthOf ∈ WB := wbm (i := 746) (by decide +kernel) rfl
theorem wb_43 : Cond.code y_T_worthOf b_T_worthOf 2 (some .long) ∈ WB := wbm (i := 749) (by decide +kernel) rfl
theorem wb_44 : Cond.instanceMethod y_T_worthOf ∈ WB := wbm (i := 747) (by decide +kernel) rfl
theorem wb_45 : Cond.selects R_T y_T_worthOf y_T_worthOf ∈ WB := wbm (i := 748) (by decide +kernel) rfl
def f_T_size (tn : Int32) : Option (Int32) := some (tn)
set_option maxHeartbeats 4000000 in
set_option maxRecDepth 100000 in
theorem c_T_size (l : Launch) (dC : Nat → ClassId) (dI : Nat → Nat → Nat) (aT aK aG aE aW : Nat) (sz : Nat) (tn : Int32) (ts : Int32) (o : Int32) (hf : f_T_size tn = some o) : Met l y_T_size (w_T_size) ({ frames := 0, cells := 0, slots := 0, locals := 0 }) (va_Pc [.ref aT] (fun U => U.heap.size = sz ∧ va_P (dC, dI) vwCl [(aT, .inr (2, [.ref aK, .ref aG, .ref aE, .ref aW, .int tn, .int ts]))] U.heap ∧ va_K (dC, dI) vwCl [] U ∧ va_D (fun _ => True) [(aT, .inr (2, [.ref aK, .ref aG, .ref aE, .ref aW, .int tn, .int ts]))] ∧ NW U)) (va_Qi (fun (r : Int32) (_ : Unit) => r = o) (fun _ t => va_P (dC, dI) vwCl [(aT, .inr (2, [.ref aK, .ref aG, .ref aE, .ref aW, .int tn, .int ts]))] t.heap ∧ va_K (dC, dI) vwCl [] t ∧ va_D (va_A [(aT, .inr (2, [.ref aK, .ref aG, .ref aE, .ref aW, .int tn, .int ts]))] sz) [(aT, .inr (2, [.ref aK, .ref aG, .ref aE, .ref aW, .int tn, .int ts]))]) (va_A [(aT, .inr (2, [.ref aK, .ref aG, .ref aE, .ref aW, .int tn, .int ts]))] sz)) 0 0 (va_A [(aT, .inr (2, [.ref aK, .ref aG, .ref aE, .ref aW, .int tn, .int ts]))] sz) := by
  refine Met.ofW (cc := b_T_size) (maxL := 1) (ret := (some .int)) (by decide) rfl ?_
  intro p e s m args below meth c s₁ B hml hv
  obtain ⟨rfl, hsz, hP, hK, hD0, hN⟩ := hv
  have hx := B.exec
  have hb := B.bytes
  have hr := B.returns
  have hts : ∀ w ∈ WB, w.before _ s = true := fun w h => atoms_spec (ws := w_T_size) B.pre w (List.mem_cons_of_mem _ h)
  have hown : s.vm.findClass R_T = some m.cls := findClass_of_methodNamed B.named
  have hlocks := B.notSynchronized
  subst hsz
  have hD := hD0.self (sz := s.heap.size)
  generalize hAe : va_A [(aT, .inr (2, [.ref aK, .ref aG, .ref aE, .ref aW, .int tn, .int ts]))] s.heap.size = A at hD ⊢
  have hA : ∀ q : Nat, s.heap.size ≤ q → A q := fun q h => by rw [← hAe]; exact Or.inr h
  have hS : va_S A s.heap s.heap [] := va_S.rf
  have hP : va_P (dC, dI) vwCl [(aT, .inr (2, [.ref aK, .ref aG, .ref aE, .ref aW, .int tn, .int ts]))] s.heap := hP
  have hl := lv_entry [.ref aT] (n := 1) (Nat.le_of_ble_eq_true rfl)
  rw [lg_entry_eq]
  generalize (lg_sl [.ref aT] ++ List.replicate (1 - (lg_sl [.ref aT]).length) Slot.unset).toArray = ls at hl ⊢
  have hl : lv_has ls 1 [(0, .ref aT)] := hl
  rw [f_T_size] at hf
  refine lv_aload_n hx hb d_T_size_0 rfl (lv_at hl 0 rfl) ?_
  refine va_get (D := (dC, dI)) (ci := 2) (v := .int tn) (C := R_T) (T := F_T) (N := 6) hx hb hts i_T hown hK hP 0 rfl rfl 4 (by decide) (hts _ wb_26) (fun _ h9 => h9) rfl d_T_size_1 ?_
  have ho := Option.some.inj hf
  subst o
  have hP9 := hP.sub (ws' := [(aT, .inr (2, [.ref aK, .ref aG, .ref aE, .ref aW, .int tn, .int ts]))]) [0] rfl
  have hD9 := hD.sub (ws' := [(aT, .inr (2, [.ref aK, .ref aG, .ref aE, .ref aW, .int tn, .int ts]))]) [0] (by decide) rfl
  exact W.iret (v := tn) hx hb hr (fun t ht hW => ⟨⟨tn, (), rfl, rfl, by rw [ht]; exact hP9, va_K.moved hW.alike hK, hD9⟩, hS.F ht⟩) hS.2.2 d_T_size_4

def f_T_areSound (ts : Int32) : Option (Int32) := gz ts (some (ts))
set_option maxHeartbeats 4000000 in
set_option maxRecDepth 100000 in
theorem c_T_areSound (l : Launch) (dC : Nat → ClassId) (dI : Nat → Nat → Nat) (aT aK aG aE aW : Nat) (sz : Nat) (tn : Int32) (ts : Int32) (o : Int32) (hf : f_T_areSound ts = some o) : Met l y_T_areSound (w_T_areSound) ({ frames := 0, cells := 0, slots := 0, locals := 0 }) (va_Pc [.ref aT] (fun U => U.heap.size = sz ∧ va_P (dC, dI) vwCl [(aT, .inr (2, [.ref aK, .ref aG, .ref aE, .ref aW, .int tn, .int ts]))] U.heap ∧ va_K (dC, dI) vwCl [] U ∧ va_D (fun _ => True) [(aT, .inr (2, [.ref aK, .ref aG, .ref aE, .ref aW, .int tn, .int ts]))] ∧ NW U)) (va_Qi (fun (r : Int32) (_ : Unit) => r = o ∧ narrow .boolean (.int r) = .int r) (fun _ t => va_P (dC, dI) vwCl [(aT, .inr (2, [.ref aK, .ref aG, .ref aE, .ref aW, .int tn, .int ts]))] t.heap ∧ va_K (dC, dI) vwCl [] t ∧ va_D (va_A [(aT, .inr (2, [.ref aK, .ref aG, .ref aE, .ref aW, .int tn, .int ts]))] sz) [(aT, .inr (2, [.ref aK, .ref aG, .ref aE, .ref aW, .int tn, .int ts]))]) (va_A [(aT, .inr (2, [.ref aK, .ref aG, .ref aE, .ref aW, .int tn, .int ts]))] sz)) 0 0 (va_A [(aT, .inr (2, [.ref aK, .ref aG, .ref aE, .ref aW, .int tn, .int ts]))] sz) := by
  refine Met.ofW (cc := b_T_areSound) (maxL := 1) (ret := (some .boolean)) (by decide) rfl ?_
  intro p e s m args below meth c s₁ B hml hv
  obtain ⟨rfl, hsz, hP, hK, hD0, hN⟩ := hv
  have hx := B.exec
  have hb := B.bytes
  have hr := B.returns
  have hts : ∀ w ∈ WB, w.before _ s = true := fun w h => atoms_spec (ws := w_T_areSound) B.pre w (List.mem_cons_of_mem _ h)
  have hown : s.vm.findClass R_T = some m.cls := findClass_of_methodNamed B.named
  have hlocks := B.notSynchronized
  subst hsz
  have hD := hD0.self (sz := s.heap.size)
  generalize hAe : va_A [(aT, .inr (2, [.ref aK, .ref aG, .ref aE, .ref aW, .int tn, .int ts]))] s.heap.size = A at hD ⊢
  have hA : ∀ q : Nat, s.heap.size ≤ q → A q := fun q h => by rw [← hAe]; exact Or.inr h
  have hS : va_S A s.heap s.heap [] := va_S.rf
  have hP : va_P (dC, dI) vwCl [(aT, .inr (2, [.ref aK, .ref aG, .ref aE, .ref aW, .int tn, .int ts]))] s.heap := hP
  have hl := lv_entry [.ref aT] (n := 1) (Nat.le_of_ble_eq_true rfl)
  rw [lg_entry_eq]
  generalize (lg_sl [.ref aT] ++ List.replicate (1 - (lg_sl [.ref aT]).length) Slot.unset).toArray = ls at hl ⊢
  have hl : lv_has ls 1 [(0, .ref aT)] := hl
  rw [f_T_areSound] at hf
  refine lv_aload_n hx hb d_T_areSound_0 rfl (lv_at hl 0 rfl) ?_
  refine va_get (D := (dC, dI)) (ci := 2) (v := .int ts) (C := R_T) (T := F_T) (N := 6) hx hb hts i_T hown hK hP 0 rfl rfl 5 (by decide) (hts _ wb_27) (fun _ h9 => h9) rfl d_T_areSound_1 ?_
  obtain ⟨hzz, hf⟩ := gz_some hf
  have ho := Option.some.inj hf
  subst o
  have hP9 := hP.sub (ws' := [(aT, .inr (2, [.ref aK, .ref aG, .ref aE, .ref aW, .int tn, .int ts]))]) [0] rfl
  have hD9 := hD.sub (ws' := [(aT, .inr (2, [.ref aK, .ref aG, .ref aE, .ref aW, .int tn, .int ts]))]) [0] (by decide) rfl
  exact W.zret (v := ts) (ty := .boolean) hx hb hr hzz (fun t ht hW => ⟨⟨ts, (), rfl, ⟨rfl, hzz⟩, by rw [ht]; exact hP9, va_K.moved hW.alike hK, hD9⟩, hS.F ht⟩) hS.2.2 d_T_areSound_4

def f_T_has (tn : Int32) (p0 : Int32) : Option (Int32) := if p0 < (0 : Int32) then some ((0 : Int32)) else if tn ≤ p0 then some ((0 : Int32)) else some ((1 : Int32))
set_option maxHeartbeats 4000000 in
set_option maxRecDepth 100000 in
theorem c_T_has (l : Launch) (dC : Nat → ClassId) (dI : Nat → Nat → Nat) (aT aK aG aE aW : Nat) (sz : Nat) (tn : Int32) (ts : Int32) (p0 : Int32) (o : Int32) (hf : f_T_has tn p0 = some o) : Met l y_T_has (w_T_has) ({ frames := 0, cells := 0, slots := 0, locals := 0 }) (va_Pc [.ref aT, .int p0] (fun U => U.heap.size = sz ∧ va_P (dC, dI) vwCl [(aT, .inr (2, [.ref aK, .ref aG, .ref aE, .ref aW, .int tn, .int ts]))] U.heap ∧ va_K (dC, dI) vwCl [] U ∧ va_D (fun _ => True) [(aT, .inr (2, [.ref aK, .ref aG, .ref aE, .ref aW, .int tn, .int ts]))] ∧ NW U)) (va_Qi (fun (r : Int32) (_ : Unit) => r = o ∧ narrow .boolean (.int r) = .int r) (fun _ t => va_P (dC, dI) vwCl [(aT, .inr (2, [.ref aK, .ref aG, .ref aE, .ref aW, .int tn, .int ts]))] t.heap ∧ va_K (dC, dI) vwCl [] t ∧ va_D (va_A [(aT, .inr (2, [.ref aK, .ref aG, .ref aE, .ref aW, .int tn, .int ts]))] sz) [(aT, .inr (2, [.ref aK, .ref aG, .ref aE, .ref aW, .int tn, .int ts]))]) (va_A [(aT, .inr (2, [.ref aK, .ref aG, .ref aE, .ref aW, .int tn, .int ts]))] sz)) 0 0 (va_A [(aT, .inr (2, [.ref aK, .ref aG, .ref aE, .ref aW, .int tn, .int ts]))] sz) := by
  refine Met.ofW (cc := b_T_has) (maxL := 2) (ret := (some .boolean)) (by decide) rfl ?_
  intro p e s m args below meth c s₁ B hml hv
  obtain ⟨rfl, hsz, hP, hK, hD0, hN⟩ := hv
  have hx := B.exec
  have hb := B.bytes
  have hr := B.returns
  have hts : ∀ w ∈ WB, w.before _ s = true := fun w h => atoms_spec (ws := w_T_has) B.pre w (List.mem_cons_of_mem _ h)
  have hown : s.vm.findClass R_T = some m.cls := findClass_of_methodNamed B.named
  have hlocks := B.notSynchronized
  subst hsz
  have hD := hD0.self (sz := s.heap.size)
  generalize hAe : va_A [(aT, .inr (2, [.ref aK, .ref aG, .ref aE, .ref aW, .int tn, .int ts]))] s.heap.size = A at hD ⊢
  have hA : ∀ q : Nat, s.heap.size ≤ q → A q := fun q h => by rw [← hAe]; exact Or.inr h
  have hS : va_S A s.heap s.heap [] := va_S.rf
  have hP : va_P (dC, dI) vwCl [(aT, .inr (2, [.ref aK, .ref aG, .ref aE, .ref aW, .int tn, .int ts]))] s.heap := hP
  have hl := lv_entry [.ref aT, .int p0] (n := 2) (Nat.le_of_ble_eq_true rfl)
  rw [lg_entry_eq]
  generalize (lg_sl [.ref aT, .int p0] ++ List.replicate (2 - (lg_sl [.ref aT, .int p0]).length) Slot.unset).toArray = ls at hl ⊢
  have hl : lv_has ls 2 [(0, .ref aT), (1, .int p0)] := hl
  rw [f_T_has] at hf
  refine lv_iload_n hx hb d_T_has_0 rfl (lv_at hl 1 rfl) ?_
  refine lv_if_lt (tgt := 16) hx hb d_T_has_1 (by decide) (fun c_1 => ?_) (fun c_1 => ?_)
  · rw [if_pos c_1] at hf
    refine lv_iconst (v := (0 : Int32)) hx hb d_T_has_16 (by decide) ?_
    have ho := Option.some.inj hf
    subst o
    have hP9 := hP.sub (ws' := [(aT, .inr (2, [.ref aK, .ref aG, .ref aE, .ref aW, .int tn, .int ts]))]) [0] rfl
    have hD9 := hD.sub (ws' := [(aT, .inr (2, [.ref aK, .ref aG, .ref aE, .ref aW, .int tn, .int ts]))]) [0] (by decide) rfl
    exact W.zret (v := (0 : Int32)) (ty := .boolean) hx hb hr rfl (fun t ht hW => ⟨⟨(0 : Int32), (), rfl, ⟨rfl, rfl⟩, by rw [ht]; exact hP9, va_K.moved hW.alike hK, hD9⟩, hS.F ht⟩) hS.2.2 d_T_has_17
  · rw [if_neg c_1] at hf
    refine lv_iload_n hx hb d_T_has_4 rfl (lv_at hl 1 rfl) ?_
    refine lv_aload_n hx hb d_T_has_5 rfl (lv_at hl 0 rfl) ?_
    refine va_get (D := (dC, dI)) (ci := 2) (v := .int tn) (C := R_T) (T := F_T) (N := 6) hx hb hts i_T hown hK hP 0 rfl rfl 4 (by decide) (hts _ wb_26) (fun _ h9 => h9) rfl d_T_has_6 ?_
    refine lv_icmp_ge (tgt := 16) hx hb d_T_has_9 (by decide) (fun c_2 => ?_) (fun c_2 => ?_)
    · rw [if_pos c_2] at hf
      refine lv_iconst (v := (0 : Int32)) hx hb d_T_has_16 (by decide) ?_
      have ho := Option.some.inj hf
      subst o
      have hP9 := hP.sub (ws' := [(aT, .inr (2, [.ref aK, .ref aG, .ref aE, .ref aW, .int tn, .int ts]))]) [0] rfl
      have hD9 := hD.sub (ws' := [(aT, .inr (2, [.ref aK, .ref aG, .ref aE, .ref aW, .int tn, .int ts]))]) [0] (by decide) rfl
      exact W.zret (v := (0 : Int32)) (ty := .boolean) hx hb hr rfl (fun t ht hW => ⟨⟨(0 : Int32), (), rfl, ⟨rfl, rfl⟩, by rw [ht]; exact hP9, va_K.moved hW.alike hK, hD9⟩, hS.F ht⟩) hS.2.2 d_T_has_17
    · rw [if_neg c_2] at hf
      refine lv_iconst (v := (1 : Int32)) hx hb d_T_has_12 (by decide) ?_
      refine lv_goto (tgt := 17) hx hb d_T_has_13 (by decide) ?_
      have ho := Option.some.inj hf
      subst o
      have hP9 := hP.sub (ws' := [(aT, .inr (2, [.ref aK, .ref aG, .ref aE, .ref aW, .int tn, .int ts]))]) [0] rfl
      have hD9 := hD.sub (ws' := [(aT, .inr (2, [.ref aK, .ref aG, .ref aE, .ref aW, .int tn, .int ts]))]) [0] (by decide) rfl
      exact W.zret (v := (1 : Int32)) (ty := .boolean) hx hb hr rfl (fun t ht hW => ⟨⟨(1 : Int32), (), rfl, ⟨rfl, rfl⟩, by rw [ht]; exact hP9, va_K.moved hW.alike hK, hD9⟩, hS.F ht⟩) hS.2.2 d_T_has_17

def f_T_kindOf (tn : Int32) (tk : Nat → Int32) (p0 : Int32) : Option (Int32) := (f_T_has tn p0).bind (fun o_1 => if o_1 = (0 : Int32) then some ((-1 : Int32)) else gi p0 1024 (some (tk p0.toNatClampNeg)))
set_option maxHeartbeats 4000000 in
set_option maxRecDepth 100000 in
theorem c_T_kindOf (l : Launch) (dC : Nat → ClassId) (dI : Nat → Nat → Nat) (aT aK aG aE aW : Nat) (cK : ClassId) (sz : Nat) (tn : Int32) (ts : Int32) (tk : Nat → Int32) (p0 : Int32) (o : Int32) (hf : f_T_kindOf tn tk p0 = some o) : Met l y_T_kindOf (w_T_kindOf) ({ frames := 1, cells := 0, slots := 0, locals := 21 }) (va_Pc [.ref aT, .int p0] (fun U => U.heap.size = sz ∧ va_P (dC, dI) vwCl [(aT, .inr (2, [.ref aK, .ref aG, .ref aE, .ref aW, .int tn, .int ts])), (aK, .inl (cK, 1024, .inl tk))] U.heap ∧ va_K (dC, dI) vwCl [(cK, .byte)] U ∧ va_D (fun _ => True) [(aT, .inr (2, [.ref aK, .ref aG, .ref aE, .ref aW, .int tn, .int ts])), (aK, .inl (cK, 1024, .inl tk))] ∧ NW U)) (va_Qi (fun (r : Int32) (_ : Unit) => r = o) (fun _ t => va_P (dC, dI) vwCl [(aT, .inr (2, [.ref aK, .ref aG, .ref aE, .ref aW, .int tn, .int ts])), (aK, .inl (cK, 1024, .inl tk))] t.heap ∧ va_K (dC, dI) vwCl [(cK, .byte)] t ∧ va_D (va_A [(aT, .inr (2, [.ref aK, .ref aG, .ref aE, .ref aW, .int tn, .int ts])), (aK, .inl (cK, 1024, .inl tk))] sz) [(aT, .inr (2, [.ref aK, .ref aG, .ref aE, .ref aW, .int tn, .int ts])), (aK, .inl (cK, 1024, .inl tk))]) (va_A [(aT, .inr (2, [.ref aK, .ref aG, .ref aE, .ref aW, .int tn, .int ts])), (aK, .inl (cK, 1024, .inl tk))] sz)) 0 0 (va_A [(aT, .inr (2, [.ref aK, .ref aG, .ref aE, .ref aW, .int tn, .int ts])), (aK, .inl (cK, 1024, .inl tk))] sz) := by
  refine Met.ofW (cc := b_T_kindOf) (maxL := 2) (ret := (some .int)) (by decide) rfl ?_
  intro p e s m args below meth c s₁ B hml hv
  obtain ⟨rfl, hsz, hP, hK, hD0, hN⟩ := hv
  have hx := B.exec
  have hb := B.bytes
  have hr := B.returns
  have hts : ∀ w ∈ WB, w.before _ s = true := fun w h => atoms_spec (ws := w_T_kindOf) B.pre w (List.mem_cons_of_mem _ h)
  have hown : s.vm.findClass R_T = some m.cls := findClass_of_methodNamed B.named
  have hlocks := B.notSynchronized
  subst hsz
  have hD := hD0.self (sz := s.heap.size)
  generalize hAe : va_A [(aT, .inr (2, [.ref aK, .ref aG, .ref aE, .ref aW, .int tn, .int ts])), (aK, .inl (cK, 1024, .inl tk))] s.heap.size = A at hD ⊢
  have hA : ∀ q : Nat, s.heap.size ≤ q → A q := fun q h => by rw [← hAe]; exact Or.inr h
  have hS : va_S A s.heap s.heap [] := va_S.rf
  have hP : va_P (dC, dI) vwCl [(aT, .inr (2, [.ref aK, .ref aG, .ref aE, .ref aW, .int tn, .int ts])), (aK, .inl (cK, 1024, .inl tk))] s.heap := hP
  have hl := lv_entry [.ref aT, .int p0] (n := 2) (Nat.le_of_ble_eq_true rfl)
  rw [lg_entry_eq]
  generalize (lg_sl [.ref aT, .int p0] ++ List.replicate (2 - (lg_sl [.ref aT, .int p0]).length) Slot.unset).toArray = ls at hl ⊢
  have hl : lv_has ls 2 [(0, .ref aT), (1, .int p0)] := hl
  rw [f_T_kindOf] at hf
  refine lv_aload_n hx hb d_T_kindOf_0 rfl (lv_at hl 0 rfl) ?_
  refine lv_iload_n hx hb d_T_kindOf_1 rfl (lv_at hl 1 rfl) ?_
  obtain ⟨o_1, hM_1, hf⟩ := bd_some hf
  refine cr_i (va_runV (As := [.int p0]) (rest := []) ⟨hx, hb, hml, hown, hts⟩ (c_T_has l dC dI aT aK aG aE aW  s.heap.size tn ts p0 o_1 hM_1) (cwV 1 hts (gwV wb_28 wb_30 wb_31 wb_32 wb_29) rfl rfl rfl (by decide +kernel) ⟨Nat.le_of_ble_eq_true rfl, Nat.le_of_ble_eq_true rfl⟩) (pr_V (hP.sub [0] rfl) (hD.sub [0] (by decide) rfl) hK hN [] rfl (ci := 2) rfl rfl rfl) rfl rfl hl.1 rfl (lv_room (Nat.le_of_ble_eq_true rfl)) d_T_kindOf_2 ⟨Nat.zero_le _, Nat.zero_le _⟩) hP hD hS hA (in_of [0] rfl) (fun r_1 H locs hw hP hS => ?_)
  obtain ⟨hw, hz_1⟩ := hw
  subst r_1
  refine lv_if_eq (tgt := 17) hx hb d_T_kindOf_5 (by decide) (fun c_2 => ?_) (fun c_2 => ?_)
  · rw [if_pos c_2] at hf
    refine lv_iconst (v := (-1 : Int32)) hx hb d_T_kindOf_17 (by decide) ?_
    have ho := Option.some.inj hf
    subst o
    have hP9 := hP.sub (ws' := [(aT, .inr (2, [.ref aK, .ref aG, .ref aE, .ref aW, .int tn, .int ts])), (aK, .inl (cK, 1024, .inl tk))]) [0, 1] rfl
    have hD9 := hD.sub (ws' := [(aT, .inr (2, [.ref aK, .ref aG, .ref aE, .ref aW, .int tn, .int ts])), (aK, .inl (cK, 1024, .inl tk))]) [0, 1] (by decide) rfl
    exact W.iret (v := (-1 : Int32)) hx hb hr (fun t ht hW => ⟨⟨(-1 : Int32), (), rfl, rfl, by rw [ht]; exact hP9, va_K.moved hW.alike hK, hD9⟩, hS.F ht⟩) hS.2.2 d_T_kindOf_18
  · rw [if_neg c_2] at hf
    refine lv_aload_n hx hb d_T_kindOf_8 rfl (lv_at hl 0 rfl) ?_
    refine va_get (D := (dC, dI)) (ci := 2) (v := .ref aK) (C := R_T) (T := F_T) (N := 6) hx hb hts i_T hown hK hP 0 rfl rfl 0 (by decide) (hts _ wb_33) (fun _ h9 => h9) rfl d_T_kindOf_9 ?_
    refine lv_iload_n hx hb d_T_kindOf_12 rfl (lv_at hl 1 rfl) ?_
    obtain ⟨hin, hf⟩ := gi_some hf
    refine va_bald hx hb hK hP 1 0 rfl rfl hin d_T_kindOf_13 ?_
    refine lv_goto (tgt := 18) hx hb d_T_kindOf_14 (by decide) ?_
    have ho := Option.some.inj hf
    subst o
    have hP9 := hP.sub (ws' := [(aT, .inr (2, [.ref aK, .ref aG, .ref aE, .ref aW, .int tn, .int ts])), (aK, .inl (cK, 1024, .inl tk))]) [0, 1] rfl
    have hD9 := hD.sub (ws' := [(aT, .inr (2, [.ref aK, .ref aG, .ref aE, .ref aW, .int tn, .int ts])), (aK, .inl (cK, 1024, .inl tk))]) [0, 1] (by decide) rfl
    exact W.iret (v := tk p0.toNatClampNeg) hx hb hr (fun t ht hW => ⟨⟨tk p0.toNatClampNeg, (), rfl, rfl, by rw [ht]; exact hP9, va_K.moved hW.alike hK, hD9⟩, hS.F ht⟩) hS.2.2 d_T_kindOf_18

def f_T_beginOf (tn : Int32) (tb : Nat → Int32) (p0 : Int32) : Option (Int32) := (f_T_has tn p0).bind (fun o_1 => if o_1 = (0 : Int32) then some ((-1 : Int32)) else gi p0 1024 (some (tb p0.toNatClampNeg)))
set_option maxHeartbeats 4000000 in
set_option maxRecDepth 100000 in
theorem c_T_beginOf (l : Launch) (dC : Nat → ClassId) (dI : Nat → Nat → Nat) (aT aK aG aE aW : Nat) (cG : ClassId) (sz : Nat) (tn : Int32) (ts : Int32) (tb : Nat → Int32) (p0 : Int32) (o : Int32) (hf : f_T_beginOf tn tb p0 = some o) : Met l y_T_beginOf (w_T_beginOf) ({ frames := 1, cells := 0, slots := 0, locals := 21 }) (va_Pc [.ref aT, .int p0] (fun U => U.heap.size = sz ∧ va_P (dC, dI) vwCl [(aT, .inr (2, [.ref aK, .ref aG, .ref aE, .ref aW, .int tn, .int ts])), (aG, .inl (cG, 1024, .inl tb))] U.heap ∧ va_K (dC, dI) vwCl [(cG, .int)] U ∧ va_D (fun _ => True) [(aT, .inr (2, [.ref aK, .ref aG, .ref aE, .ref aW, .int tn, .int ts])), (aG, .inl (cG, 1024, .inl tb))] ∧ NW U)) (va_Qi (fun (r : Int32) (_ : Unit) => r = o) (fun _ t => va_P (dC, dI) vwCl [(aT, .inr (2, [.ref aK, .ref aG, .ref aE, .ref aW, .int tn, .int ts])), (aG, .inl (cG, 1024, .inl tb))] t.heap ∧ va_K (dC, dI) vwCl [(cG, .int)] t ∧ va_D (va_A [(aT, .inr (2, [.ref aK, .ref aG, .ref aE, .ref aW, .int tn, .int ts])), (aG, .inl (cG, 1024, .inl tb))] sz) [(aT, .inr (2, [.ref aK, .ref aG, .ref aE, .ref aW, .int tn, .int ts])), (aG, .inl (cG, 1024, .inl tb))]) (va_A [(aT, .inr (2, [.ref aK, .ref aG, .ref aE, .ref aW, .int tn, .int ts])), (aG, .inl (cG, 1024, .inl tb))] sz)) 0 0 (va_A [(aT, .inr (2, [.ref aK, .ref aG, .ref aE, .ref aW, .int tn, .int ts])), (aG, .inl (cG, 1024, .inl tb))] sz) := by
  refine Met.ofW (cc := b_T_beginOf) (maxL := 2) (ret := (some .int)) (by decide) rfl ?_
  intro p e s m args below meth c s₁ B hml hv
  obtain ⟨rfl, hsz, hP, hK, hD0, hN⟩ := hv
  have hx := B.exec
  have hb := B.bytes
  have hr := B.returns
  have hts : ∀ w ∈ WB, w.before _ s = true := fun w h => atoms_spec (ws := w_T_beginOf) B.pre w (List.mem_cons_of_mem _ h)
  have hown : s.vm.findClass R_T = some m.cls := findClass_of_methodNamed B.named
  have hlocks := B.notSynchronized
  subst hsz
  have hD := hD0.self (sz := s.heap.size)
  generalize hAe : va_A [(aT, .inr (2, [.ref aK, .ref aG, .ref aE, .ref aW, .int tn, .int ts])), (aG, .inl (cG, 1024, .inl tb))] s.heap.size = A at hD ⊢
  have hA : ∀ q : Nat, s.heap.size ≤ q → A q := fun q h => by rw [← hAe]; exact Or.inr h
  have hS : va_S A s.heap s.heap [] := va_S.rf
  have hP : va_P (dC, dI) vwCl [(aT, .inr (2, [.ref aK, .ref aG, .ref aE, .ref aW, .int tn, .int ts])), (aG, .inl (cG, 1024, .inl tb))] s.heap := hP
  have hl := lv_entry [.ref aT, .int p0] (n := 2) (Nat.le_of_ble_eq_true rfl)
  rw [lg_entry_eq]
  generalize (lg_sl [.ref aT, .int p0] ++ List.replicate (2 - (lg_sl [.ref aT, .int p0]).length) Slot.unset).toArray = ls at hl ⊢
  have hl : lv_has ls 2 [(0, .ref aT), (1, .int p0)] := hl
  rw [f_T_beginOf] at hf
  refine lv_aload_n hx hb d_T_beginOf_0 rfl (lv_at hl 0 rfl) ?_
  refine lv_iload_n hx hb d_T_beginOf_1 rfl (lv_at hl 1 rfl) ?_
  obtain ⟨o_1, hM_1, hf⟩ := bd_some hf
  refine cr_i (va_runV (As := [.int p0]) (rest := []) ⟨hx, hb, hml, hown, hts⟩ (c_T_has l dC dI aT aK aG aE aW  s.heap.size tn ts p0 o_1 hM_1) (cwV 1 hts (gwV wb_28 wb_30 wb_31 wb_32 wb_29) rfl rfl rfl (by decide +kernel) ⟨Nat.le_of_ble_eq_true rfl, Nat.le_of_ble_eq_true rfl⟩) (pr_V (hP.sub [0] rfl) (hD.sub [0] (by decide) rfl) hK hN [] rfl (ci := 2) rfl rfl rfl) rfl rfl hl.1 rfl (lv_room (Nat.le_of_ble_eq_true rfl)) d_T_beginOf_2 ⟨Nat.zero_le _, Nat.zero_le _⟩) hP hD hS hA (in_of [0] rfl) (fun r_1 H locs hw hP hS => ?_)
  obtain ⟨hw, hz_1⟩ := hw
  subst r_1
  refine lv_if_eq (tgt := 17) hx hb d_T_beginOf_5 (by decide) (fun c_2 => ?_) (fun c_2 => ?_)
  · rw [if_pos c_2] at hf
    refine lv_iconst (v := (-1 : Int32)) hx hb d_T_beginOf_17 (by decide) ?_
    have ho := Option.some.inj hf
    subst o
    have hP9 := hP.sub (ws' := [(aT, .inr (2, [.ref aK, .ref aG, .ref aE, .ref aW, .int tn, .int ts])), (aG, .inl (cG, 1024, .inl tb))]) [0, 1] rfl
    have hD9 := hD.sub (ws' := [(aT, .inr (2, [.ref aK, .ref aG, .ref aE, .ref aW, .int tn, .int ts])), (aG, .inl (cG, 1024, .inl tb))]) [0, 1] (by decide) rfl
    exact W.iret (v := (-1 : Int32)) hx hb hr (fun t ht hW => ⟨⟨(-1 : Int32), (), rfl, rfl, by rw [ht]; exact hP9, va_K.moved hW.alike hK, hD9⟩, hS.F ht⟩) hS.2.2 d_T_beginOf_18
  · rw [if_neg c_2] at hf
    refine lv_aload_n hx hb d_T_beginOf_8 rfl (lv_at hl 0 rfl) ?_
    refine va_get (D := (dC, dI)) (ci := 2) (v := .ref aG) (C := R_T) (T := F_T) (N := 6) hx hb hts i_T hown hK hP 0 rfl rfl 1 (by decide) (hts _ wb_34) (fun _ h9 => h9) rfl d_T_beginOf_9 ?_
    refine lv_iload_n hx hb d_T_beginOf_12 rfl (lv_at hl 1 rfl) ?_
    obtain ⟨hin, hf⟩ := gi_some hf
    refine va_iald hx hb hK hP 1 0 rfl rfl hin d_T_beginOf_13 ?_
    refine lv_goto (tgt := 18) hx hb d_T_beginOf_14 (by decide) ?_
    have ho := Option.some.inj hf
    subst o
    have hP9 := hP.sub (ws' := [(aT, .inr (2, [.ref aK, .ref aG, .ref aE, .ref aW, .int tn, .int ts])), (aG, .inl (cG, 1024, .inl tb))]) [0, 1] rfl
    have hD9 := hD.sub (ws' := [(aT, .inr (2, [.ref aK, .ref aG, .ref aE, .ref aW, .int tn, .int ts])), (aG, .inl (cG, 1024, .inl tb))]) [0, 1] (by decide) rfl
    exact W.iret (v := tb p0.toNatClampNeg) hx hb hr (fun t ht hW => ⟨⟨tb p0.toNatClampNeg, (), rfl, rfl, by rw [ht]; exact hP9, va_K.moved hW.alike hK, hD9⟩, hS.F ht⟩) hS.2.2 d_T_beginOf_18

def f_T_endOf (tn : Int32) (te : Nat → Int32) (p0 : Int32) : Option (Int32) := (f_T_has tn p0).bind (fun o_1 => if o_1 = (0 : Int32) then some ((-1 : Int32)) else gi p0 1024 (some (te p0.toNatClampNeg)))
set_option maxHeartbeats 4000000 in
set_option maxRecDepth 100000 in
theorem c_T_endOf (l : Launch) (dC : Nat → ClassId) (dI : Nat → Nat → Nat) (aT aK aG aE aW : Nat) (cE : ClassId) (sz : Nat) (tn : Int32) (ts : Int32) (te : Nat → Int32) (p0 : Int32) (o : Int32) (hf : f_T_endOf tn te p0 = some o) : Met l y_T_endOf (w_T_endOf) ({ frames := 1, cells := 0, slots := 0, locals := 21 }) (va_Pc [.ref aT, .int p0] (fun U => U.heap.size = sz ∧ va_P (dC, dI) vwCl [(aT, .inr (2, [.ref aK, .ref aG, .ref aE, .ref aW, .int tn, .int ts])), (aE, .inl (cE, 1024, .inl te))] U.heap ∧ va_K (dC, dI) vwCl [(cE, .int)] U ∧ va_D (fun _ => True) [(aT, .inr (2, [.ref aK, .ref aG, .ref aE, .ref aW, .int tn, .int ts])), (aE, .inl (cE, 1024, .inl te))] ∧ NW U)) (va_Qi (fun (r : Int32) (_ : Unit) => r = o) (fun _ t => va_P (dC, dI) vwCl [(aT, .inr (2, [.ref aK, .ref aG, .ref aE, .ref aW, .int tn, .int ts])), (aE, .inl (cE, 1024, .inl te))] t.heap ∧ va_K (dC, dI) vwCl [(cE, .int)] t ∧ va_D (va_A [(aT, .inr (2, [.ref aK, .ref aG, .ref aE, .ref aW, .int tn, .int ts])), (aE, .inl (cE, 1024, .inl te))] sz) [(aT, .inr (2, [.ref aK, .ref aG, .ref aE, .ref aW, .int tn, .int ts])), (aE, .inl (cE, 1024, .inl te))]) (va_A [(aT, .inr (2, [.ref aK, .ref aG, .ref aE, .ref aW, .int tn, .int ts])), (aE, .inl (cE, 1024, .inl te))] sz)) 0 0 (va_A [(aT, .inr (2, [.ref aK, .ref aG, .ref aE, .ref aW, .int tn, .int ts])), (aE, .inl (cE, 1024, .inl te))] sz) := by
  refine Met.ofW (cc := b_T_endOf) (maxL := 2) (ret := (some .int)) (by decide) rfl ?_
  intro p e s m args below meth c s₁ B hml hv
  obtain ⟨rfl, hsz, hP, hK, hD0, hN⟩ := hv
  have hx := B.exec
  have hb := B.bytes
  have hr := B.returns
  have hts : ∀ w ∈ WB, w.before _ s = true := fun w h => atoms_spec (ws := w_T_endOf) B.pre w (List.mem_cons_of_mem _ h)
  have hown : s.vm.findClass R_T = some m.cls := findClass_of_methodNamed B.named
  have hlocks := B.notSynchronized
  subst hsz
  have hD := hD0.self (sz := s.heap.size)
  generalize hAe : va_A [(aT, .inr (2, [.ref aK, .ref aG, .ref aE, .ref aW, .int tn, .int ts])), (aE, .inl (cE, 1024, .inl te))] s.heap.size = A at hD ⊢
  have hA : ∀ q : Nat, s.heap.size ≤ q → A q := fun q h => by rw [← hAe]; exact Or.inr h
  have hS : va_S A s.heap s.heap [] := va_S.rf
  have hP : va_P (dC, dI) vwCl [(aT, .inr (2, [.ref aK, .ref aG, .ref aE, .ref aW, .int tn, .int ts])), (aE, .inl (cE, 1024, .inl te))] s.heap := hP
  have hl := lv_entry [.ref aT, .int p0] (n := 2) (Nat.le_of_ble_eq_true rfl)
  rw [lg_entry_eq]
  generalize (lg_sl [.ref aT, .int p0] ++ List.replicate (2 - (lg_sl [.ref aT, .int p0]).length) Slot.unset).toArray = ls at hl ⊢
  have hl : lv_has ls 2 [(0, .ref aT), (1, .int p0)] := hl
  rw [f_T_endOf] at hf
  refine lv_aload_n hx hb d_T_endOf_0 rfl (lv_at hl 0 rfl) ?_
  refine lv_iload_n hx hb d_T_endOf_1 rfl (lv_at hl 1 rfl) ?_
  obtain ⟨o_1, hM_1, hf⟩ := bd_some hf
  refine cr_i (va_runV (As := [.int p0]) (rest := []) ⟨hx, hb, hml, hown, hts⟩ (c_T_has l dC dI aT aK aG aE aW  s.heap.size tn ts p0 o_1 hM_1) (cwV 1 hts (gwV wb_28 wb_30 wb_31 wb_32 wb_29) rfl rfl rfl (by decide +kernel) ⟨Nat.le_of_ble_eq_true rfl, Nat.le_of_ble_eq_true rfl⟩) (pr_V (hP.sub [0] rfl) (hD.sub [0] (by decide) rfl) hK hN [] rfl (ci := 2) rfl rfl rfl) rfl rfl hl.1 rfl (lv_room (Nat.le_of_ble_eq_true rfl)) d_T_endOf_2 ⟨Nat.zero_le _, Nat.zero_le _⟩) hP hD hS hA (in_of [0] rfl) (fun r_1 H locs hw hP hS => ?_)
  obtain ⟨hw, hz_1⟩ := hw
  subst r_1
  refine lv_if_eq (tgt := 17) hx hb d_T_endOf_5 (by decide) (fun c_2 => ?_) (fun c_2 => ?_)
  · rw [if_pos c_2] at hf
    refine lv_iconst (v := (-1 : Int32)) hx hb d_T_endOf_17 (by decide) ?_
    have ho := Option.some.inj hf
    subst o
    have hP9 := hP.sub (ws' := [(aT, .inr (2, [.ref aK, .ref aG, .ref aE, .ref aW, .int tn, .int ts])), (aE, .inl (cE, 1024, .inl te))]) [0, 1] rfl
    have hD9 := hD.sub (ws' := [(aT, .inr (2, [.ref aK, .ref aG, .ref aE, .ref aW, .int tn, .int ts])), (aE, .inl (cE, 1024, .inl te))]) [0, 1] (by decide) rfl
    exact W.iret (v := (-1 : Int32)) hx hb hr (fun t ht hW => ⟨⟨(-1 : Int32), (), rfl, rfl, by rw [ht]; exact hP9, va_K.moved hW.alike hK, hD9⟩, hS.F ht⟩) hS.2.2 d_T_endOf_18
  · rw [if_neg c_2] at hf
    refine lv_aload_n hx hb d_T_endOf_8 rfl (lv_at hl 0 rfl) ?_
    refine va_get (D := (dC, dI)) (ci := 2) (v := .ref aE) (C := R_T) (T := F_T) (N := 6) hx hb hts i_T hown hK hP 0 rfl rfl 2 (by decide) (hts _ wb_35) (fun _ h9 => h9) rfl d_T_endOf_9 ?_
    refine lv_iload_n hx hb d_T_endOf_12 rfl (lv_at hl 1 rfl) ?_
    obtain ⟨hin, hf⟩ := gi_some hf
    refine va_iald hx hb hK hP 1 0 rfl rfl hin d_T_endOf_13 ?_
    refine lv_goto (tgt := 18) hx hb d_T_endOf_14 (by decide) ?_
    have ho := Option.some.inj hf
    subst o
    have hP9 := hP.sub (ws' := [(aT, .inr (2, [.ref aK, .ref aG, .ref aE, .ref aW, .int tn, .int ts])), (aE, .inl (cE, 1024, .inl te))]) [0, 1] rfl
    have hD9 := hD.sub (ws' := [(aT, .inr (2, [.ref aK, .ref aG, .ref aE, .ref aW, .int tn, .int ts])), (aE, .inl (cE, 1024, .inl te))]) [0, 1] (by decide) rfl
    exact W.iret (v := te p0.toNatClampNeg) hx hb hr (fun t ht hW => ⟨⟨te p0.toNatClampNeg, (), rfl, rfl, by rw [ht]; exact hP9, va_K.moved hW.alike hK, hD9⟩, hS.F ht⟩) hS.2.2 d_T_endOf_18

def f_T_worthOf (tn : Int32) (tw : Nat → Int64) (p0 : Int32) : Option (Int64) := (f_T_has tn p0).bind (fun o_1 => if o_1 = (0 : Int32) then some ((0 : Int64)) else gi p0 1024 (some (tw p0.toNatClampNeg)))
set_option maxHeartbeats 4000000 in
set_option maxRecDepth 100000 in
theorem c_T_worthOf (l : Launch) (dC : Nat → ClassId) (dI : Nat → Nat → Nat) (aT aK aG aE aW : Nat) (cW : ClassId) (sz : Nat) (tn : Int32) (ts : Int32) (tw : Nat → Int64) (p0 : Int32) (o : Int64) (hf : f_T_worthOf tn tw p0 = some o) : Met l y_T_worthOf (w_T_worthOf) ({ frames := 1, cells := 0, slots := 0, locals := 21 }) (va_Pc [.ref aT, .int p0] (fun U => U.heap.size = sz ∧ va_P (dC, dI) vwCl [(aT, .inr (2, [.ref aK, .ref aG, .ref aE, .ref aW, .int tn, .int ts])), (aW, .inl (cW, 1024, .inr (.inl tw)))] U.heap ∧ va_K (dC, dI) vwCl [(cW, .long)] U ∧ va_D (fun _ => True) [(aT, .inr (2, [.ref aK, .ref aG, .ref aE, .ref aW, .int tn, .int ts])), (aW, .inl (cW, 1024, .inr (.inl tw)))] ∧ NW U)) (va_Ql (fun (r : Int64) (_ : Unit) => r = o) (fun _ t => va_P (dC, dI) vwCl [(aT, .inr (2, [.ref aK, .ref aG, .ref aE, .ref aW, .int tn, .int ts])), (aW, .inl (cW, 1024, .inr (.inl tw)))] t.heap ∧ va_K (dC, dI) vwCl [(cW, .long)] t ∧ va_D (va_A [(aT, .inr (2, [.ref aK, .ref aG, .ref aE, .ref aW, .int tn, .int ts])), (aW, .inl (cW, 1024, .inr (.inl tw)))] sz) [(aT, .inr (2, [.ref aK, .ref aG, .ref aE, .ref aW, .int tn, .int ts])), (aW, .inl (cW, 1024, .inr (.inl tw)))]) (va_A [(aT, .inr (2, [.ref aK, .ref aG, .ref aE, .ref aW, .int tn, .int ts])), (aW, .inl (cW, 1024, .inr (.inl tw)))] sz)) 0 0 (va_A [(aT, .inr (2, [.ref aK, .ref aG, .ref aE, .ref aW, .int tn, .int ts])), (aW, .inl (cW, 1024, .inr (.inl tw)))] sz) := by
  refine Met.ofW (cc := b_T_worthOf) (maxL := 2) (ret := (some .long)) (by decide) rfl ?_
  intro p e s m args below meth c s₁ B hml hv
  obtain ⟨rfl, hsz, hP, hK, hD0, hN⟩ := hv
  have hx := B.exec
  have hb := B.bytes
  have hr := B.returns
  have hts : ∀ w ∈ WB, w.before _ s = true := fun w h => atoms_spec (ws := w_T_worthOf) B.pre w (List.mem_cons_of_mem _ h)
  have hown : s.vm.findClass R_T = some m.cls := findClass_of_methodNamed B.named
  have hlocks := B.notSynchronized
  subst hsz
  have hD := hD0.self (sz := s.heap.size)
  generalize hAe : va_A [(aT, .inr (2, [.ref aK, .ref aG, .ref aE, .ref aW, .int tn, .int ts])), (aW, .inl (cW, 1024, .inr (.inl tw)))] s.heap.size = A at hD ⊢
  have hA : ∀ q : Nat, s.heap.size ≤ q → A q := fun q h => by rw [← hAe]; exact Or.inr h
  have hS : va_S A s.heap s.heap [] := va_S.rf
  have hP : va_P (dC, dI) vwCl [(aT, .inr (2, [.ref aK, .ref aG, .ref aE, .ref aW, .int tn, .int ts])), (aW, .inl (cW, 1024, .inr (.inl tw)))] s.heap := hP
  have hl := lv_entry [.ref aT, .int p0] (n := 2) (Nat.le_of_ble_eq_true rfl)
  rw [lg_entry_eq]
  generalize (lg_sl [.ref aT, .int p0] ++ List.replicate (2 - (lg_sl [.ref aT, .int p0]).length) Slot.unset).toArray = ls at hl ⊢
  have hl : lv_has ls 2 [(0, .ref aT), (1, .int p0)] := hl
  rw [f_T_worthOf] at hf
  refine lv_aload_n hx hb d_T_worthOf_0 rfl (lv_at hl 0 rfl) ?_
  refine lv_iload_n hx hb d_T_worthOf_1 rfl (lv_at hl 1 rfl) ?_
  obtain ⟨o_1, hM_1, hf⟩ := bd_some hf
  refine cr_i (va_runV (As := [.int p0]) (rest := []) ⟨hx, hb, hml, hown, hts⟩ (c_T_has l dC dI aT aK aG aE aW  s.heap.size tn ts p0 o_1 hM_1) (cwV 1 hts (gwV wb_28 wb_30 wb_31 wb_32 wb_29) rfl rfl rfl (by decide +kernel) ⟨Nat.le_of_ble_eq_true rfl, Nat.le_of_ble_eq_true rfl⟩) (pr_V (hP.sub [0] rfl) (hD.sub [0] (by decide) rfl) hK hN [] rfl (ci := 2) rfl rfl rfl) rfl rfl hl.1 rfl (lv_room (Nat.le_of_ble_eq_true rfl)) d_T_worthOf_2 ⟨Nat.zero_le _, Nat.zero_le _⟩) hP hD hS hA (in_of [0] rfl) (fun r_1 H locs hw hP hS => ?_)
  obtain ⟨hw, hz_1⟩ := hw
  subst r_1
  refine lv_if_eq (tgt := 17) hx hb d_T_worthOf_5 (by decide) (fun c_2 => ?_) (fun c_2 => ?_)
  · rw [if_pos c_2] at hf
    refine lv_lconst (v := (0 : Int64)) hx hb d_T_worthOf_17 (by decide) ?_
    have ho := Option.some.inj hf
    subst o
    have hP9 := hP.sub (ws' := [(aT, .inr (2, [.ref aK, .ref aG, .ref aE, .ref aW, .int tn, .int ts])), (aW, .inl (cW, 1024, .inr (.inl tw)))]) [0, 1] rfl
    have hD9 := hD.sub (ws' := [(aT, .inr (2, [.ref aK, .ref aG, .ref aE, .ref aW, .int tn, .int ts])), (aW, .inl (cW, 1024, .inr (.inl tw)))]) [0, 1] (by decide) rfl
    exact W.lret (v := (0 : Int64)) hx hb hr (fun t ht hW => ⟨⟨(0 : Int64), (), rfl, rfl, by rw [ht]; exact hP9, va_K.moved hW.alike hK, hD9⟩, hS.F ht⟩) hS.2.2 d_T_worthOf_18
  · rw [if_neg c_2] at hf
    refine lv_aload_n hx hb d_T_worthOf_8 rfl (lv_at hl 0 rfl) ?_
    refine va_get (D := (dC, dI)) (ci := 2) (v := .ref aW) (C := R_T) (T := F_T) (N := 6) hx hb hts i_T hown hK hP 0 rfl rfl 3 (by decide) (hts _ wb_36) (fun _ h9 => h9) rfl d_T_worthOf_9 ?_
    refine lv_iload_n hx hb d_T_worthOf_12 rfl (lv_at hl 1 rfl) ?_
    obtain ⟨hin, hf⟩ := gi_some hf
    refine va_lald hx hb hK hP 1 0 rfl rfl hin d_T_worthOf_13 ?_
    refine lv_goto (tgt := 18) hx hb d_T_worthOf_14 (by decide) ?_
    have ho := Option.some.inj hf
    subst o
    have hP9 := hP.sub (ws' := [(aT, .inr (2, [.ref aK, .ref aG, .ref aE, .ref aW, .int tn, .int ts])), (aW, .inl (cW, 1024, .inr (.inl tw)))]) [0, 1] rfl
    have hD9 := hD.sub (ws' := [(aT, .inr (2, [.ref aK, .ref aG, .ref aE, .ref aW, .int tn, .int ts])), (aW, .inl (cW, 1024, .inr (.inl tw)))]) [0, 1] (by decide) rfl
    exact W.lret (v := tw p0.toNatClampNeg) hx hb hr (fun t ht hW => ⟨⟨tw p0.toNatClampNeg, (), rfl, rfl, by rw [ht]; exact hP9, va_K.moved hW.alike hK, hD9⟩, hS.F ht⟩) hS.2.2 d_T_worthOf_18

def f_T_lowWorthOf (tn : Int32) (tw : Nat → Int64) (p0 : Int32) : Option (Int32) := (f_T_has tn p0).bind (fun o_1 => if o_1 = (0 : Int32) then some ((-1 : Int32)) else gi p0 1024 (some (((tw p0.toNatClampNeg) &&& (2147483647 : Int64)).toInt32)))
set_option maxHeartbeats 4000000 in
set_option maxRecDepth 100000 in
theorem c_T_lowWorthOf (l : Launch) (dC : Nat → ClassId) (dI : Nat → Nat → Nat) (aT aK aG aE aW : Nat) (cW : ClassId) (sz : Nat) (tn : Int32) (ts : Int32) (tw : Nat → Int64) (p0 : Int32) (o : Int32) (hf : f_T_lowWorthOf tn tw p0 = some o) : Met l y_T_lowWorthOf (w_T_lowWorthOf) ({ frames := 1, cells := 0, slots := 0, locals := 21 }) (va_Pc [.ref aT, .int p0] (fun U => U.heap.size = sz ∧ va_P (dC, dI) vwCl [(aT, .inr (2, [.ref aK, .ref aG, .ref aE, .ref aW, .int tn, .int ts])), (aW, .inl (cW, 1024, .inr (.inl tw)))] U.heap ∧ va_K (dC, dI) vwCl [(cW, .long)] U ∧ va_D (fun _ => True) [(aT, .inr (2, [.ref aK, .ref aG, .ref aE, .ref aW, .int tn, .int ts])), (aW, .inl (cW, 1024, .inr (.inl tw)))] ∧ NW U)) (va_Qi (fun (r : Int32) (_ : Unit) => r = o) (fun _ t => va_P (dC, dI) vwCl [(aT, .inr (2, [.ref aK, .ref aG, .ref aE, .ref aW, .int tn, .int ts])), (aW, .inl (cW, 1024, .inr (.inl tw)))] t.heap ∧ va_K (dC, dI) vwCl [(cW, .long)] t ∧ va_D (va_A [(aT, .inr (2, [.ref aK, .ref aG, .ref aE, .ref aW, .int tn, .int ts])), (aW, .inl (cW, 1024, .inr (.inl tw)))] sz) [(aT, .inr (2, [.ref aK, .ref aG, .ref aE, .ref aW, .int tn, .int ts])), (aW, .inl (cW, 1024, .inr (.inl tw)))]) (va_A [(aT, .inr (2, [.ref aK, .ref aG, .ref aE, .ref aW, .int tn, .int ts])), (aW, .inl (cW, 1024, .inr (.inl tw)))] sz)) 0 0 (va_A [(aT, .inr (2, [.ref aK, .ref aG, .ref aE, .ref aW, .int tn, .int ts])), (aW, .inl (cW, 1024, .inr (.inl tw)))] sz) := by
  refine Met.ofW (cc := b_T_lowWorthOf) (maxL := 2) (ret := (some .int)) (by decide) rfl ?_
  intro p e s m args below meth c s₁ B hml hv
  obtain ⟨rfl, hsz, hP, hK, hD0, hN⟩ := hv
  have hx := B.exec
  have hb := B.bytes
  have hr := B.returns
  have hts : ∀ w ∈ WB, w.before _ s = true := fun w h => atoms_spec (ws := w_T_lowWorthOf) B.pre w (List.mem_cons_of_mem _ h)
  have hown : s.vm.findClass R_T = some m.cls := findClass_of_methodNamed B.named
  have hlocks := B.notSynchronized
  subst hsz
  have hD := hD0.self (sz := s.heap.size)
  generalize hAe : va_A [(aT, .inr (2, [.ref aK, .ref aG, .ref aE, .ref aW, .int tn, .int ts])), (aW, .inl (cW, 1024, .inr (.inl tw)))] s.heap.size = A at hD ⊢
  have hA : ∀ q : Nat, s.heap.size ≤ q → A q := fun q h => by rw [← hAe]; exact Or.inr h
  have hS : va_S A s.heap s.heap [] := va_S.rf
  have hP : va_P (dC, dI) vwCl [(aT, .inr (2, [.ref aK, .ref aG, .ref aE, .ref aW, .int tn, .int ts])), (aW, .inl (cW, 1024, .inr (.inl tw)))] s.heap := hP
  have hl := lv_entry [.ref aT, .int p0] (n := 2) (Nat.le_of_ble_eq_true rfl)
  rw [lg_entry_eq]
  generalize (lg_sl [.ref aT, .int p0] ++ List.replicate (2 - (lg_sl [.ref aT, .int p0]).length) Slot.unset).toArray = ls at hl ⊢
  have hl : lv_has ls 2 [(0, .ref aT), (1, .int p0)] := hl
  rw [f_T_lowWorthOf] at hf
  refine lv_aload_n hx hb d_T_lowWorthOf_0 rfl (lv_at hl 0 rfl) ?_
  refine lv_iload_n hx hb d_T_lowWorthOf_1 rfl (lv_at hl 1 rfl) ?_
  obtain ⟨o_1, hM_1, hf⟩ := bd_some hf
  refine cr_i (va_runV (As := [.int p0]) (rest := []) ⟨hx, hb, hml, hown, hts⟩ (c_T_has l dC dI aT aK aG aE aW  s.heap.size tn ts p0 o_1 hM_1) (cwV 1 hts (gwV wb_28 wb_30 wb_31 wb_32 wb_29) rfl rfl rfl (by decide +kernel) ⟨Nat.le_of_ble_eq_true rfl, Nat.le_of_ble_eq_true rfl⟩) (pr_V (hP.sub [0] rfl) (hD.sub [0] (by decide) rfl) hK hN [] rfl (ci := 2) rfl rfl rfl) rfl rfl hl.1 rfl (lv_room (Nat.le_of_ble_eq_true rfl)) d_T_lowWorthOf_2 ⟨Nat.zero_le _, Nat.zero_le _⟩) hP hD hS hA (in_of [0] rfl) (fun r_1 H locs hw hP hS => ?_)
  obtain ⟨hw, hz_1⟩ := hw
  subst r_1
  refine lv_if_eq (tgt := 22) hx hb d_T_lowWorthOf_5 (by decide) (fun c_2 => ?_) (fun c_2 => ?_)
  · rw [if_pos c_2] at hf
    refine lv_iconst (v := (-1 : Int32)) hx hb d_T_lowWorthOf_22 (by decide) ?_
    have ho := Option.some.inj hf
    subst o
    have hP9 := hP.sub (ws' := [(aT, .inr (2, [.ref aK, .ref aG, .ref aE, .ref aW, .int tn, .int ts])), (aW, .inl (cW, 1024, .inr (.inl tw)))]) [0, 1] rfl
    have hD9 := hD.sub (ws' := [(aT, .inr (2, [.ref aK, .ref aG, .ref aE, .ref aW, .int tn, .int ts])), (aW, .inl (cW, 1024, .inr (.inl tw)))]) [0, 1] (by decide) rfl
    exact W.iret (v := (-1 : Int32)) hx hb hr (fun t ht hW => ⟨⟨(-1 : Int32), (), rfl, rfl, by rw [ht]; exact hP9, va_K.moved hW.alike hK, hD9⟩, hS.F ht⟩) hS.2.2 d_T_lowWorthOf_23
  · rw [if_neg c_2] at hf
    refine lv_aload_n hx hb d_T_lowWorthOf_8 rfl (lv_at hl 0 rfl) ?_
    refine va_get (D := (dC, dI)) (ci := 2) (v := .ref aW) (C := R_T) (T := F_T) (N := 6) hx hb hts i_T hown hK hP 0 rfl rfl 3 (by decide) (hts _ wb_36) (fun _ h9 => h9) rfl d_T_lowWorthOf_9 ?_
    refine lv_iload_n hx hb d_T_lowWorthOf_12 rfl (lv_at hl 1 rfl) ?_
    obtain ⟨hin, hf⟩ := gi_some hf
    refine va_lald hx hb hK hP 1 0 rfl rfl hin d_T_lowWorthOf_13 ?_
    refine lv_ldc2 (v := (2147483647 : Int64)) hx hb hown (hts _ wb_37) d_T_lowWorthOf_14 ?_
    refine lv_land hx hb d_T_lowWorthOf_17 ?_
    refine lv_l2i (v := ((tw p0.toNatClampNeg) &&& (2147483647 : Int64)).toInt32) hx hb d_T_lowWorthOf_18 rfl ?_
    refine lv_goto (tgt := 23) hx hb d_T_lowWorthOf_19 (by decide) ?_
    have ho := Option.some.inj hf
    subst o
    have hP9 := hP.sub (ws' := [(aT, .inr (2, [.ref aK, .ref aG, .ref aE, .ref aW, .int tn, .int ts])), (aW, .inl (cW, 1024, .inr (.inl tw)))]) [0, 1] rfl
    have hD9 := hD.sub (ws' := [(aT, .inr (2, [.ref aK, .ref aG, .ref aE, .ref aW, .int tn, .int ts])), (aW, .inl (cW, 1024, .inr (.inl tw)))]) [0, 1] (by decide) rfl
    exact W.iret (v := ((tw p0.toNatClampNeg) &&& (2147483647 : Int64)).toInt32) hx hb hr (fun t ht hW => ⟨⟨((tw p0.toNatClampNeg) &&& (2147483647 : Int64)).toInt32, (), rfl, rfl, by rw [ht]; exact hP9, va_K.moved hW.alike hK, hD9⟩, hS.F ht⟩) hS.2.2 d_T_lowWorthOf_23

def f_T_signOf (tn : Int32) (tk : Nat → Int32) (tw : Nat → Int64) (p0 : Int32) : Option (Int32) := (f_T_kindOf tn tk p0).bind (fun o_1 => if o_1 = (4 : Int32) then (f_T_worthOf tn tw p0).bind (fun o_3 => some (o_3.toInt32)) else some ((0 : Int32)))
set_option maxHeartbeats 4000000 in
set_option maxRecDepth 100000 in
theorem c_T_signOf (l : Launch) (dC : Nat → ClassId) (dI : Nat → Nat → Nat) (aT aK aG aE aW : Nat) (cK cW : ClassId) (sz : Nat) (tn : Int32) (ts : Int32) (tk : Nat → Int32) (tw : Nat → Int64) (p0 : Int32) (o : Int32) (hf : f_T_signOf tn tk tw p0 = some o) : Met l y_T_signOf (w_T_signOf) ({ frames := 2, cells := 0, slots := 0, locals := 42 }) (va_Pc [.ref aT, .int p0] (fun U => U.heap.size = sz ∧ va_P (dC, dI) vwCl [(aT, .inr (2, [.ref aK, .ref aG, .ref aE, .ref aW, .int tn, .int ts])), (aK, .inl (cK, 1024, .inl tk)), (aW, .inl (cW, 1024, .inr (.inl tw)))] U.heap ∧ va_K (dC, dI) vwCl [(cK, .byte), (cW, .long)] U ∧ va_D (fun _ => True) [(aT, .inr (2, [.ref aK, .ref aG, .ref aE, .ref aW, .int tn, .int ts])), (aK, .inl (cK, 1024, .inl tk)), (aW, .inl (cW, 1024, .inr (.inl tw)))] ∧ NW U)) (va_Qi (fun (r : Int32) (_ : Unit) => r = o) (fun _ t => va_P (dC, dI) vwCl [(aT, .inr (2, [.ref aK, .ref aG, .ref aE, .ref aW, .int tn, .int ts])), (aK, .inl (cK, 1024, .inl tk)), (aW, .inl (cW, 1024, .inr (.inl tw)))] t.heap ∧ va_K (dC, dI) vwCl [(cK, .byte), (cW, .long)] t ∧ va_D (va_A [(aT, .inr (2, [.ref aK, .ref aG, .ref aE, .ref aW, .int tn, .int ts])), (aK, .inl (cK, 1024, .inl tk)), (aW, .inl (cW, 1024, .inr (.inl tw)))] sz) [(aT, .inr (2, [.ref aK, .ref aG, .ref aE, .ref aW, .int tn, .int ts])), (aK, .inl (cK, 1024, .inl tk)), (aW, .inl (cW, 1024, .inr (.inl tw)))]) (va_A [(aT, .inr (2, [.ref aK, .ref aG, .ref aE, .ref aW, .int tn, .int ts])), (aK, .inl (cK, 1024, .inl tk)), (aW, .inl (cW, 1024, .inr (.inl tw)))] sz)) 0 0 (va_A [(aT, .inr (2, [.ref aK, .ref aG, .ref aE, .ref aW, .int tn, .int ts])), (aK, .inl (cK, 1024, .inl tk)), (aW, .inl (cW, 1024, .inr (.inl tw)))] sz) := by
  refine Met.ofW (cc := b_T_signOf) (maxL := 2) (ret := (some .int)) (by decide) rfl ?_
  intro p e s m args below meth c s₁ B hml hv
  obtain ⟨rfl, hsz, hP, hK, hD0, hN⟩ := hv
  have hx := B.exec
  have hb := B.bytes
  have hr := B.returns
  have hts : ∀ w ∈ WB, w.before _ s = true := fun w h => atoms_spec (ws := w_T_signOf) B.pre w (List.mem_cons_of_mem _ h)
  have hown : s.vm.findClass R_T = some m.cls := findClass_of_methodNamed B.named
  have hlocks := B.notSynchronized
  subst hsz
  have hD := hD0.self (sz := s.heap.size)
  generalize hAe : va_A [(aT, .inr (2, [.ref aK, .ref aG, .ref aE, .ref aW, .int tn, .int ts])), (aK, .inl (cK, 1024, .inl tk)), (aW, .inl (cW, 1024, .inr (.inl tw)))] s.heap.size = A at hD ⊢
  have hA : ∀ q : Nat, s.heap.size ≤ q → A q := fun q h => by rw [← hAe]; exact Or.inr h
  have hS : va_S A s.heap s.heap [] := va_S.rf
  have hP : va_P (dC, dI) vwCl [(aT, .inr (2, [.ref aK, .ref aG, .ref aE, .ref aW, .int tn, .int ts])), (aK, .inl (cK, 1024, .inl tk)), (aW, .inl (cW, 1024, .inr (.inl tw)))] s.heap := hP
  have hl := lv_entry [.ref aT, .int p0] (n := 2) (Nat.le_of_ble_eq_true rfl)
  rw [lg_entry_eq]
  generalize (lg_sl [.ref aT, .int p0] ++ List.replicate (2 - (lg_sl [.ref aT, .int p0]).length) Slot.unset).toArray = ls at hl ⊢
  have hl : lv_has ls 2 [(0, .ref aT), (1, .int p0)] := hl
  rw [f_T_signOf] at hf
  refine lv_aload_n hx hb d_T_signOf_0 rfl (lv_at hl 0 rfl) ?_
  refine lv_iload_n hx hb d_T_signOf_1 rfl (lv_at hl 1 rfl) ?_
  obtain ⟨o_1, hM_1, hf⟩ := bd_some hf
  refine cr_i (va_runV (As := [.int p0]) (rest := []) ⟨hx, hb, hml, hown, hts⟩ (c_T_kindOf l dC dI aT aK aG aE aW cK s.heap.size tn ts tk p0 o_1 hM_1) (cwV 1 hts (gwV wb_38 wb_40 wb_41 wb_32 wb_39) rfl rfl rfl (by decide +kernel) ⟨Nat.le_of_ble_eq_true rfl, Nat.le_of_ble_eq_true rfl⟩) (pr_V (hP.sub [0, 1] rfl) (hD.sub [0, 1] (by decide) rfl) hK hN [0] rfl (ci := 2) rfl rfl rfl) rfl rfl hl.1 rfl (lv_room (Nat.le_of_ble_eq_true rfl)) d_T_signOf_2 ⟨Nat.zero_le _, Nat.zero_le _⟩) hP hD hS hA (in_of [0, 1] rfl) (fun r_1 H locs hw hP hS => ?_)
  subst r_1
  refine lv_iconst (v := (4 : Int32)) hx hb d_T_signOf_5 (by decide) ?_
  refine lv_icmp_ne (tgt := 18) hx hb d_T_signOf_6 (by decide) (fun c_2 => ?_) (fun c_2 => ?_)
  · rw [if_neg c_2] at hf
    refine lv_iconst (v := (0 : Int32)) hx hb d_T_signOf_18 (by decide) ?_
    have ho := Option.some.inj hf
    subst o
    have hP9 := hP.sub (ws' := [(aT, .inr (2, [.ref aK, .ref aG, .ref aE, .ref aW, .int tn, .int ts])), (aK, .inl (cK, 1024, .inl tk)), (aW, .inl (cW, 1024, .inr (.inl tw)))]) [0, 1, 2] rfl
    have hD9 := hD.sub (ws' := [(aT, .inr (2, [.ref aK, .ref aG, .ref aE, .ref aW, .int tn, .int ts])), (aK, .inl (cK, 1024, .inl tk)), (aW, .inl (cW, 1024, .inr (.inl tw)))]) [0, 1, 2] (by decide) rfl
    exact W.iret (v := (0 : Int32)) hx hb hr (fun t ht hW => ⟨⟨(0 : Int32), (), rfl, rfl, by rw [ht]; exact hP9, va_K.moved hW.alike hK, hD9⟩, hS.F ht⟩) hS.2.2 d_T_signOf_19
  · rw [if_pos c_2] at hf
    refine lv_aload_n hx hb d_T_signOf_9 rfl (lv_at hl 0 rfl) ?_
    refine lv_iload_n hx hb d_T_signOf_10 rfl (lv_at hl 1 rfl) ?_
    obtain ⟨o_3, hM_3, hf⟩ := bd_some hf
    refine cr_l (va_runV (As := [.int p0]) (rest := []) ⟨hx, hb, hml, hown, hts⟩ (c_T_worthOf l dC dI aT aK aG aE aW cW H.size tn ts tw p0 o_3 hM_3) (cwV 1 hts (gwV wb_42 wb_44 wb_45 wb_32 wb_43) rfl rfl rfl (by decide +kernel) ⟨Nat.le_of_ble_eq_true rfl, Nat.le_of_ble_eq_true rfl⟩) (pr_V (hP.sub [0, 2] rfl) (hD.sub [0, 2] (by decide) rfl) hK hN [1] rfl (ci := 2) rfl rfl rfl) rfl rfl hl.1 rfl (lv_room (Nat.le_of_ble_eq_true rfl)) d_T_signOf_11 ⟨Nat.zero_le _, Nat.zero_le _⟩) hP hD hS hA (in_of [0, 2] rfl) (fun r_3 H locs hw hP hS => ?_)
    subst r_3
    refine lv_l2i (v := o_3.toInt32) hx hb d_T_signOf_14 rfl ?_
    refine lv_goto (tgt := 19) hx hb d_T_signOf_15 (by decide) ?_
    have ho := Option.some.inj hf
    subst o
    have hP9 := hP.sub (ws' := [(aT, .inr (2, [.ref aK, .ref aG, .ref aE, .ref aW, .int tn, .int ts])), (aK, .inl (cK, 1024, .inl tk)), (aW, .inl (cW, 1024, .inr (.inl tw)))]) [0, 1, 2] rfl
    have hD9 := hD.sub (ws' := [(aT, .inr (2, [.ref aK, .ref aG, .ref aE, .ref aW, .int tn, .int ts])), (aK, .inl (cK, 1024, .inl tk)), (aW, .inl (cW, 1024, .inr (.inl tw)))]) [0, 1, 2] (by decide) rfl
    exact W.iret (v := o_3.toInt32) hx hb hr (fun t ht hW => ⟨⟨o_3.toInt32, (), rfl, rfl, by rw [ht]; exact hP9, va_K.moved hW.alike hK, hD9⟩, hS.F ht⟩) hS.2.2 d_T_signOf_19

def f_T_areJustOneName (tn : Int32) (ts : Int32) (tk : Nat → Int32) : Option (Int32) := if ts = (0 : Int32) then some ((0 : Int32)) else if tn = (1 : Int32) then (f_T_kindOf tn tk (0 : Int32)).bind (fun o_3 => if o_3 = (1 : Int32) then some ((1 : Int32)) else some ((0 : Int32))) else some ((0 : Int32))
set_option maxHeartbeats 4000000 in
set_option maxRecDepth 100000 in
theorem c_T_areJustOneName (l : Launch) (dC : Nat → ClassId) (dI : Nat → Nat → Nat) (aT aK aG aE aW : Nat) (cK : ClassId) (sz : Nat) (tn : Int32) (ts : Int32) (tk : Nat → Int32) (o : Int32) (hf : f_T_areJustOneName tn ts tk = some o) : Met l y_T_areJustOneName (w_T_areJustOneName) ({ frames := 2, cells := 0, slots := 0, locals := 42 }) (va_Pc [.ref aT] (fun U => U.heap.size = sz ∧ va_P (dC, dI) vwCl [(aT, .inr (2, [.ref aK, .ref aG, .ref aE, .ref aW, .int tn, .int ts])), (aK, .inl (cK, 1024, .inl tk))] U.heap ∧ va_K (dC, dI) vwCl [(cK, .byte)] U ∧ va_D (fun _ => True) [(aT, .inr (2, [.ref aK, .ref aG, .ref aE, .ref aW, .int tn, .int ts])), (aK, .inl (cK, 1024, .inl tk))] ∧ NW U)) (va_Qi (fun (r : Int32) (_ : Unit) => r = o ∧ narrow .boolean (.int r) = .int r) (fun _ t => va_P (dC, dI) vwCl [(aT, .inr (2, [.ref aK, .ref aG, .ref aE, .ref aW, .int tn, .int ts])), (aK, .inl (cK, 1024, .inl tk))] t.heap ∧ va_K (dC, dI) vwCl [(cK, .byte)] t ∧ va_D (va_A [(aT, .inr (2, [.ref aK, .ref aG, .ref aE, .ref aW, .int tn, .int ts])), (aK, .inl (cK, 1024, .inl tk))] sz) [(aT, .inr (2, [.ref aK, .ref aG, .ref aE, .ref aW, .int tn, .int ts])), (aK, .inl (cK, 1024, .inl tk))]) (va_A [(aT, .inr (2, [.ref aK, .ref aG, .ref aE, .ref aW, .int tn, .int ts])), (aK, .inl (cK, 1024, .inl tk))] sz)) 0 0 (va_A [(aT, .inr (2, [.ref aK, .ref aG, .ref aE, .ref aW, .int tn, .int ts])), (aK, .inl (cK, 1024, .inl tk))] sz) := by
  refine Met.ofW (cc := b_T_areJustOneName) (maxL := 1) (ret := (some .boolean)) (by decide) rfl ?_
  intro p e s m args below meth c s₁ B hml hv
  obtain ⟨rfl, hsz, hP, hK, hD0, hN⟩ := hv
  have hx := B.exec
  have hb := B.bytes
  have hr := B.returns
  have hts : ∀ w ∈ WB, w.before _ s = true := fun w h => atoms_spec (ws := w_T_areJustOneName) B.pre w (List.mem_cons_of_mem _ h)
  have hown : s.vm.findClass R_T = some m.cls := findClass_of_methodNamed B.named
  have hlocks := B.notSynchronized
  subst hsz
  have hD := hD0.self (sz := s.heap.size)
  generalize hAe : va_A [(aT, .inr (2, [.ref aK, .ref aG, .ref aE, .ref aW, .int tn, .int ts])), (aK, .inl (cK, 1024, .inl tk))] s.heap.size = A at hD ⊢
  have hA : ∀ q : Nat, s.heap.size ≤ q → A q := fun q h => by rw [← hAe]; exact Or.inr h
  have hS : va_S A s.heap s.heap [] := va_S.rf
  have hP : va_P (dC, dI) vwCl [(aT, .inr (2, [.ref aK, .ref aG, .ref aE, .ref aW, .int tn, .int ts])), (aK, .inl (cK, 1024, .inl tk))] s.heap := hP
  have hl := lv_entry [.ref aT] (n := 1) (Nat.le_of_ble_eq_true rfl)
  rw [lg_entry_eq]
  generalize (lg_sl [.ref aT] ++ List.replicate (1 - (lg_sl [.ref aT]).length) Slot.unset).toArray = ls at hl ⊢
  have hl : lv_has ls 1 [(0, .ref aT)] := hl
  rw [f_T_areJustOneName] at hf
  refine lv_aload_n hx hb d_T_areJustOneName_0 rfl (lv_at hl 0 rfl) ?_
  refine va_get (D := (dC, dI)) (ci := 2) (v := .int ts) (C := R_T) (T := F_T) (N := 6) hx hb hts i_T hown hK hP 0 rfl rfl 5 (by decide) (hts _ wb_27) (fun _ h9 => h9) rfl d_T_areJustOneName_1 ?_
  refine lv_if_eq (tgt := 28) hx hb d_T_areJustOneName_4 (by decide) (fun c_1 => ?_) (fun c_1 => ?_)
  · rw [if_pos c_1] at hf
    refine lv_iconst (v := (0 : Int32)) hx hb d_T_areJustOneName_28 (by decide) ?_
    have ho := Option.some.inj hf
    subst o
    have hP9 := hP.sub (ws' := [(aT, .inr (2, [.ref aK, .ref aG, .ref aE, .ref aW, .int tn, .int ts])), (aK, .inl (cK, 1024, .inl tk))]) [0, 1] rfl
    have hD9 := hD.sub (ws' := [(aT, .inr (2, [.ref aK, .ref aG, .ref aE, .ref aW, .int tn, .int ts])), (aK, .inl (cK, 1024, .inl tk))]) [0, 1] (by decide) rfl
    exact W.zret (v := (0 : Int32)) (ty := .boolean) hx hb hr rfl (fun t ht hW => ⟨⟨(0 : Int32), (), rfl, ⟨rfl, rfl⟩, by rw [ht]; exact hP9, va_K.moved hW.alike hK, hD9⟩, hS.F ht⟩) hS.2.2 d_T_areJustOneName_29
  · rw [if_neg c_1] at hf
    refine lv_aload_n hx hb d_T_areJustOneName_7 rfl (lv_at hl 0 rfl) ?_
    refine va_get (D := (dC, dI)) (ci := 2) (v := .int tn) (C := R_T) (T := F_T) (N := 6) hx hb hts i_T hown hK hP 0 rfl rfl 4 (by decide) (hts _ wb_26) (fun _ h9 => h9) rfl d_T_areJustOneName_8 ?_
    refine lv_iconst (v := (1 : Int32)) hx hb d_T_areJustOneName_11 (by decide) ?_
    refine lv_icmp_ne (tgt := 28) hx hb d_T_areJustOneName_12 (by decide) (fun c_2 => ?_) (fun c_2 => ?_)
    · rw [if_neg c_2] at hf
      refine lv_iconst (v := (0 : Int32)) hx hb d_T_areJustOneName_28 (by decide) ?_
      have ho := Option.some.inj hf
      subst o
      have hP9 := hP.sub (ws' := [(aT, .inr (2, [.ref aK, .ref aG, .ref aE, .ref aW, .int tn, .int ts])), (aK, .inl (cK, 1024, .inl tk))]) [0, 1] rfl
      have hD9 := hD.sub (ws' := [(aT, .inr (2, [.ref aK, .ref aG, .ref aE, .ref aW, .int tn, .int ts])), (aK, .inl (cK, 1024, .inl tk))]) [0, 1] (by decide) rfl
      exact W.zret (v := (0 : Int32)) (ty := .boolean) hx hb hr rfl (fun t ht hW => ⟨⟨(0 : Int32), (), rfl, ⟨rfl, rfl⟩, by rw [ht]; exact hP9, va_K.moved hW.alike hK, hD9⟩, hS.F ht⟩) hS.2.2 d_T_areJustOneName_29
    · rw [if_pos c_2] at hf
      refine lv_aload_n hx hb d_T_areJustOneName_15 rfl (lv_at hl 0 rfl) ?_
      refine lv_iconst (v := (0 : Int32)) hx hb d_T_areJustOneName_16 (by decide) ?_
      obtain ⟨o_3, hM_3, hf⟩ := bd_some hf
      refine cr_i (va_runV (As := [.int (0 : Int32)]) (rest := []) ⟨hx, hb, hml, hown, hts⟩ (c_T_kindOf l dC dI aT aK aG aE aW cK s.heap.size tn ts tk (0 : Int32) o_3 hM_3) (cwV 1 hts (gwV wb_38 wb_40 wb_41 wb_32 wb_39) rfl rfl rfl (by decide +kernel) ⟨Nat.le_of_ble_eq_true rfl, Nat.le_of_ble_eq_true rfl⟩) (pr_V (hP.sub [0, 1] rfl) (hD.sub [0, 1] (by decide) rfl) hK hN [0] rfl (ci := 2) rfl rfl rfl) rfl rfl hl.1 rfl (lv_room (Nat.le_of_ble_eq_true rfl)) d_T_areJustOneName_17 ⟨Nat.zero_le _, Nat.zero_le _⟩) hP hD hS hA (in_of [0, 1] rfl) (fun r_3 H locs hw hP hS => ?_)
      subst r_3
      refine lv_iconst (v := (1 : Int32)) hx hb d_T_areJustOneName_20 (by decide) ?_
      refine lv_icmp_ne (tgt := 28) hx hb d_T_areJustOneName_21 (by decide) (fun c_4 => ?_) (fun c_4 => ?_)
      · rw [if_neg c_4] at hf
        refine lv_iconst (v := (0 : Int32)) hx hb d_T_areJustOneName_28 (by decide) ?_
        have ho := Option.some.inj hf
        subst o
        have hP9 := hP.sub (ws' := [(aT, .inr (2, [.ref aK, .ref aG, .ref aE, .ref aW, .int tn, .int ts])), (aK, .inl (cK, 1024, .inl tk))]) [0, 1] rfl
        have hD9 := hD.sub (ws' := [(aT, .inr (2, [.ref aK, .ref aG, .ref aE, .ref aW, .int tn, .int ts])), (aK, .inl (cK, 1024, .inl tk))]) [0, 1] (by decide) rfl
        exact W.zret (v := (0 : Int32)) (ty := .boolean) hx hb hr rfl (fun t ht hW => ⟨⟨(0 : Int32), (), rfl, ⟨rfl, rfl⟩, by rw [ht]; exact hP9, va_K.moved hW.alike hK, hD9⟩, hS.F ht⟩) hS.2.2 d_T_areJustOneName_29
      · rw [if_pos c_4] at hf
        refine lv_iconst (v := (1 : Int32)) hx hb d_T_areJustOneName_24 (by decide) ?_
        refine lv_goto (tgt := 29) hx hb d_T_areJustOneName_25 (by decide) ?_
        have ho := Option.some.inj hf
        subst o
        have hP9 := hP.sub (ws' := [(aT, .inr (2, [.ref aK, .ref aG, .ref aE, .ref aW, .int tn, .int ts])), (aK, .inl (cK, 1024, .inl tk))]) [0, 1] rfl
        have hD9 := hD.sub (ws' := [(aT, .inr (2, [.ref aK, .ref aG, .ref aE, .ref aW, .int tn, .int ts])), (aK, .inl (cK, 1024, .inl tk))]) [0, 1] (by decide) rfl
        exact W.zret (v := (1 : Int32)) (ty := .boolean) hx hb hr rfl (fun t ht hW => ⟨⟨(1 : Int32), (), rfl, ⟨rfl, rfl⟩, by rw [ht]; exact hP9, va_K.moved hW.alike hK, hD9⟩, hS.F ht⟩) hS.2.2 d_T_areJustOneName_29

def f_T_keep (tn : Int32) (tk : Nat → Int32) (tb : Nat → Int32) (te : Nat → Int32) (tw : Nat → Int64) (p0 : Int32) (p1 : Int32) (p2 : Int32) (p3 : Int64) : Option (Int32 × Int32 × (Nat → Int32) × (Nat → Int32) × (Nat → Int32) × (Nat → Int64)) := if tn < (1024 : Int32) then gi tn 1024 (gi tn 1024 (gi tn 1024 (gi tn 1024 (some (p2, tn + (1 : Int32), upd tk tn.toNatClampNeg (vp_nar .byte p0.toInt8.toInt32), upd tb tn.toNatClampNeg p1, upd te tn.toNatClampNeg p2, vp_updL tw tn.toNatClampNeg p3))))) else some ((-1 : Int32), tn, tk, tb, te, tw)
set_option maxHeartbeats 4000000 in
set_option maxRecDepth 100000 in
theorem c_T_keep (l : Launch) (dC : Nat → ClassId) (dI : Nat → Nat → Nat) (aT aK aG aE aW : Nat) (cK cG cE cW : ClassId) (sz : Nat) (tn : Int32) (ts : Int32) (tk : Nat → Int32) (tb : Nat → Int32) (te : Nat → Int32) (tw : Nat → Int64) (p0 : Int32) (p1 : Int32) (p2 : Int32) (p3 : Int64) (o : Int32 × Int32 × (Nat → Int32) × (Nat → Int32) × (Nat → Int32) × (Nat → Int64)) (hf : f_T_keep tn tk tb te tw p0 p1 p2 p3 = some o) : Met l y_T_keep (w_T_keep) ({ frames := 0, cells := 0, slots := 0, locals := 0 }) (va_Pc [.ref aT, .int p0, .int p1, .int p2, .long p3] (fun U => U.heap.size = sz ∧ va_P (dC, dI) vwCl [(aT, .inr (2, [.ref aK, .ref aG, .ref aE, .ref aW, .int tn, .int ts])), (aK, .inl (cK, 1024, .inl tk)), (aG, .inl (cG, 1024, .inl tb)), (aE, .inl (cE, 1024, .inl te)), (aW, .inl (cW, 1024, .inr (.inl tw)))] U.heap ∧ va_K (dC, dI) vwCl [(cK, .byte), (cG, .int), (cE, .int), (cW, .long)] U ∧ va_D (fun _ => True) [(aT, .inr (2, [.ref aK, .ref aG, .ref aE, .ref aW, .int tn, .int ts])), (aK, .inl (cK, 1024, .inl tk)), (aG, .inl (cG, 1024, .inl tb)), (aE, .inl (cE, 1024, .inl te)), (aW, .inl (cW, 1024, .inr (.inl tw)))] ∧ NW U)) (va_Qi (fun (r : Int32) (_ : Unit) => r = o.1) (fun _ t => va_P (dC, dI) vwCl [(aT, .inr (2, [.ref aK, .ref aG, .ref aE, .ref aW, .int o.2.1, .int ts])), (aK, .inl (cK, 1024, .inl o.2.2.1)), (aG, .inl (cG, 1024, .inl o.2.2.2.1)), (aE, .inl (cE, 1024, .inl o.2.2.2.2.1)), (aW, .inl (cW, 1024, .inr (.inl o.2.2.2.2.2)))] t.heap ∧ va_K (dC, dI) vwCl [(cK, .byte), (cG, .int), (cE, .int), (cW, .long)] t ∧ va_D (va_A [(aT, .inr (2, [.ref aK, .ref aG, .ref aE, .ref aW, .int tn, .int ts])), (aK, .inl (cK, 1024, .inl tk)), (aG, .inl (cG, 1024, .inl tb)), (aE, .inl (cE, 1024, .inl te)), (aW, .inl (cW, 1024, .inr (.inl tw)))] sz) [(aT, .inr (2, [.ref aK, .ref aG, .ref aE, .ref aW, .int o.2.1, .int ts])), (aK, .inl (cK, 1024, .inl o.2.2.1)), (aG, .inl (cG, 1024, .inl o.2.2.2.1)), (aE, .inl (cE, 1024, .inl o.2.2.2.2.1)), (aW, .inl (cW, 1024, .inr (.inl o.2.2.2.2.2)))]) (va_A [(aT, .inr (2, [.ref aK, .ref aG, .ref aE, .ref aW, .int tn, .int ts])), (aK, .inl (cK, 1024, .inl tk)), (aG, .inl (cG, 1024, .inl tb)), (aE, .inl (cE, 1024, .inl te)), (aW, .inl (cW, 1024, .inr (.inl tw)))] sz)) 0 0 (va_A [(aT, .inr (2, [.ref aK, .ref aG, .ref aE, .ref aW, .int tn, .int ts])), (aK, .inl (cK, 1024, .inl tk)), (aG, .inl (cG, 1024, .inl tb)), (aE, .inl (cE, 1024, .inl te)), (aW, .inl (cW, 1024, .inr (.inl tw)))] sz) := by
  refine Met.ofW (cc := b_T_keep) (maxL := 6) (ret := (some .int)) (by decide) rfl ?_
  intro p e s m args below meth c s₁ B hml hv
  obtain ⟨rfl, hsz, hP, hK, hD0, hN⟩ := hv
  have hx := B.exec
  have hb := B.bytes
  have hr := B.returns
  have hts : ∀ w ∈ WB, w.before _ s = true := fun w h => atoms_spec (ws := w_T_keep) B.pre w (List.mem_cons_of_mem _ h)
  have hown : s.vm.findClass R_T = some m.cls := findClass_of_methodNamed B.named
  have hlocks := B.notSynchronized
  subst hsz
  have hD := hD0.self (sz := s.heap.size)
  generalize hAe : va_A [(aT, .inr (2, [.ref aK, .ref aG, .ref aE, .ref aW, .int tn, .int ts])), (aK, .inl (cK, 1024, .inl tk)), (aG, .inl (cG, 1024, .inl tb)), (aE, .inl (cE, 1024, .inl te)), (aW, .inl (cW, 1024, .inr (.inl tw)))] s.heap.size = A at hD ⊢
  have hA : ∀ q : Nat, s.heap.size ≤ q → A q := fun q h => by rw [← hAe]; exact Or.inr h
  have hS : va_S A s.heap s.heap [] := va_S.rf
  have hP : va_P (dC, dI) vwCl [(aT, .inr (2, [.ref aK, .ref aG, .ref aE, .ref aW, .int tn, .int ts])), (aK, .inl (cK, 1024, .inl tk)), (aG, .inl (cG, 1024, .inl tb)), (aE, .inl (cE, 1024, .inl te)), (aW, .inl (cW, 1024, .inr (.inl tw)))] s.heap := hP
  have hl := lv_entry [.ref aT, .int p0, .int p1, .int p2, .long p3] (n := 6) (Nat.le_of_ble_eq_true rfl)
  rw [lg_entry_eq]
  generalize (lg_sl [.ref aT, .int p0, .int p1, .int p2, .long p3] ++ List.replicate (6 - (lg_sl [.ref aT, .int p0, .int p1, .int p2, .long p3]).length) Slot.unset).toArray = ls at hl ⊢
  have hl : lv_has ls 6 [(0, .ref aT), (1, .int p0), (2, .int p1), (3, .int p2), (4, .long p3)] := hl
  rw [f_T_keep] at hf
  refine lv_aload_n hx hb d_T_keep_0 rfl (lv_at hl 0 rfl) ?_
  refine va_get (D := (dC, dI)) (ci := 2) (v := .int tn) (C := R_T) (T := F_T) (N := 6) hx hb hts i_T hown hK hP 0 rfl rfl 4 (by decide) (hts _ wb_26) (fun _ h9 => h9) rfl d_T_keep_1 ?_
  refine lv_sipush (v := (1024 : Int32)) hx hb d_T_keep_4 (by decide) ?_
  refine lv_icmp_lt (tgt := 12) hx hb d_T_keep_7 (by decide) (fun c_1 => ?_) (fun c_1 => ?_)
  · rw [if_pos c_1] at hf
    refine lv_aload_n hx hb d_T_keep_12 rfl (lv_at hl 0 rfl) ?_
    refine va_get (D := (dC, dI)) (ci := 2) (v := .ref aK) (C := R_T) (T := F_T) (N := 6) hx hb hts i_T hown hK hP 0 rfl rfl 0 (by decide) (hts _ wb_33) (fun _ h9 => h9) rfl d_T_keep_13 ?_
    refine lv_aload_n hx hb d_T_keep_16 rfl (lv_at hl 0 rfl) ?_
    refine va_get (D := (dC, dI)) (ci := 2) (v := .int tn) (C := R_T) (T := F_T) (N := 6) hx hb hts i_T hown hK hP 0 rfl rfl 4 (by decide) (hts _ wb_26) (fun _ h9 => h9) rfl d_T_keep_17 ?_
    refine lv_iload_n hx hb d_T_keep_20 rfl (lv_at hl 1 rfl) ?_
    refine lv_i2b (v := p0.toInt8.toInt32) hx hb d_T_keep_21 rfl ?_
    obtain ⟨hin, hf⟩ := gi_some hf
    refine va_bast hx hb hK hP hD hS 1 0 rfl rfl hin d_T_keep_22 (fun H locs hP hD hS => ?_)
    have hP : va_P (dC, dI) vwCl [(aT, .inr (2, [.ref aK, .ref aG, .ref aE, .ref aW, .int tn, .int ts])), (aK, .inl (cK, 1024, .inl (upd tk tn.toNatClampNeg (vp_nar .byte p0.toInt8.toInt32)))), (aG, .inl (cG, 1024, .inl tb)), (aE, .inl (cE, 1024, .inl te)), (aW, .inl (cW, 1024, .inr (.inl tw)))] H := hP
    have hD : va_D A [(aT, .inr (2, [.ref aK, .ref aG, .ref aE, .ref aW, .int tn, .int ts])), (aK, .inl (cK, 1024, .inl (upd tk tn.toNatClampNeg (vp_nar .byte p0.toInt8.toInt32)))), (aG, .inl (cG, 1024, .inl tb)), (aE, .inl (cE, 1024, .inl te)), (aW, .inl (cW, 1024, .inr (.inl tw)))] := hD
    refine lv_aload_n hx hb d_T_keep_23 rfl (lv_at hl 0 rfl) ?_
    refine va_get (D := (dC, dI)) (ci := 2) (v := .ref aG) (C := R_T) (T := F_T) (N := 6) hx hb hts i_T hown hK hP 0 rfl rfl 1 (by decide) (hts _ wb_34) (fun _ h9 => h9) rfl d_T_keep_24 ?_
    refine lv_aload_n hx hb d_T_keep_27 rfl (lv_at hl 0 rfl) ?_
    refine va_get (D := (dC, dI)) (ci := 2) (v := .int tn) (C := R_T) (T := F_T) (N := 6) hx hb hts i_T hown hK hP 0 rfl rfl 4 (by decide) (hts _ wb_26) (fun _ h9 => h9) rfl d_T_keep_28 ?_
    refine lv_iload_n hx hb d_T_keep_31 rfl (lv_at hl 2 rfl) ?_
    obtain ⟨hin, hf⟩ := gi_some hf
    refine va_iast hx hb hK hP hD hS 2 1 rfl rfl hin d_T_keep_32 (fun H locs hP hD hS => ?_)
    have hP : va_P (dC, dI) vwCl [(aT, .inr (2, [.ref aK, .ref aG, .ref aE, .ref aW, .int tn, .int ts])), (aK, .inl (cK, 1024, .inl (upd tk tn.toNatClampNeg (vp_nar .byte p0.toInt8.toInt32)))), (aG, .inl (cG, 1024, .inl (upd tb tn.toNatClampNeg p1))), (aE, .inl (cE, 1024, .inl te)), (aW, .inl (cW, 1024, .inr (.inl tw)))] H := hP
    have hD : va_D A [(aT, .inr (2, [.ref aK, .ref aG, .ref aE, .ref aW, .int tn, .int ts])), (aK, .inl (cK, 1024, .inl (upd tk tn.toNatClampNeg (vp_nar .byte p0.toInt8.toInt32)))), (aG, .inl (cG, 1024, .inl (upd tb tn.toNatClampNeg p1))), (aE, .inl (cE, 1024, .inl te)), (aW, .inl (cW, 1024, .inr (.inl tw)))] := hD
    refine lv_aload_n hx hb d_T_keep_33 rfl (lv_at hl 0 rfl) ?_
    refine va_get (D := (dC, dI)) (ci := 2) (v := .ref aE) (C := R_T) (T := F_T) (N := 6) hx hb hts i_T hown hK hP 0 rfl rfl 2 (by decide) (hts _ wb_35) (fun _ h9 => h9) rfl d_T_keep_34 ?_
    refine lv_aload_n hx hb d_T_keep_37 rfl (lv_at hl 0 rfl) ?_
    refine va_get (D := (dC, dI)) (ci := 2) (v := .int tn) (C := R_T) (T := F_T) (N := 6) hx hb hts i_T hown hK hP 0 rfl rfl 4 (by decide) (hts _ wb_26) (fun _ h9 => h9) rfl d_T_keep_38 ?_
    refine lv_iload_n hx hb d_T_keep_41 rfl (lv_at hl 3 rfl) ?_
    obtain ⟨hin, hf⟩ := gi_some hf
    refine va_iast hx hb hK hP hD hS 3 2 rfl rfl hin d_T_keep_42 (fun H locs hP hD hS => ?_)
    have hP : va_P (dC, dI) vwCl [(aT, .inr (2, [.ref aK, .ref aG, .ref aE, .ref aW, .int tn, .int ts])), (aK, .inl (cK, 1024, .inl (upd tk tn.toNatClampNeg (vp_nar .byte p0.toInt8.toInt32)))), (aG, .inl (cG, 1024, .inl (upd tb tn.toNatClampNeg p1))), (aE, .inl (cE, 1024, .inl (upd te tn.toNatClampNeg p2))), (aW, .inl (cW, 1024, .inr (.inl tw)))] H := hP
    have hD : va_D A [(aT, .inr (2, [.ref aK, .ref aG, .ref aE, .ref aW, .int tn, .int ts])), (aK, .inl (cK, 1024, .inl (upd tk tn.toNatClampNeg (vp_nar .byte p0.toInt8.toInt32)))), (aG, .inl (cG, 1024, .inl (upd tb tn.toNatClampNeg p1))), (aE, .inl (cE, 1024, .inl (upd te tn.toNatClampNeg p2))), (aW, .inl (cW, 1024, .inr (.inl tw)))] := hD
    refine lv_aload_n hx hb d_T_keep_43 rfl (lv_at hl 0 rfl) ?_
    refine va_get (D := (dC, dI)) (ci := 2) (v := .ref aW) (C := R_T) (T := F_T) (N := 6) hx hb hts i_T hown hK hP 0 rfl rfl 3 (by decide) (hts _ wb_36) (fun _ h9 => h9) rfl d_T_keep_44 ?_
    refine lv_aload_n hx hb d_T_keep_47 rfl (lv_at hl 0 rfl) ?_
    refine va_get (D := (dC, dI)) (ci := 2) (v := .int tn) (C := R_T) (T := F_T) (N := 6) hx hb hts i_T hown hK hP 0 rfl rfl 4 (by decide) (hts _ wb_26) (fun _ h9 => h9) rfl d_T_keep_48 ?_
    refine lv_lload hx hb d_T_keep_51 (lv_at hl 4 rfl) ?_
    obtain ⟨hin, hf⟩ := gi_some hf
    refine va_last hx hb hK hP hD hS 4 3 rfl rfl hin d_T_keep_53 (fun H locs hP hD hS => ?_)
    have hP : va_P (dC, dI) vwCl [(aT, .inr (2, [.ref aK, .ref aG, .ref aE, .ref aW, .int tn, .int ts])), (aK, .inl (cK, 1024, .inl (upd tk tn.toNatClampNeg (vp_nar .byte p0.toInt8.toInt32)))), (aG, .inl (cG, 1024, .inl (upd tb tn.toNatClampNeg p1))), (aE, .inl (cE, 1024, .inl (upd te tn.toNatClampNeg p2))), (aW, .inl (cW, 1024, .inr (.inl (vp_updL tw tn.toNatClampNeg p3))))] H := hP
    have hD : va_D A [(aT, .inr (2, [.ref aK, .ref aG, .ref aE, .ref aW, .int tn, .int ts])), (aK, .inl (cK, 1024, .inl (upd tk tn.toNatClampNeg (vp_nar .byte p0.toInt8.toInt32)))), (aG, .inl (cG, 1024, .inl (upd tb tn.toNatClampNeg p1))), (aE, .inl (cE, 1024, .inl (upd te tn.toNatClampNeg p2))), (aW, .inl (cW, 1024, .inr (.inl (vp_updL tw tn.toNatClampNeg p3))))] := hD
    refine lv_aload_n hx hb d_T_keep_54 rfl (lv_at hl 0 rfl) ?_
    refine lv_dup hx hb d_T_keep_55 rfl ?_
    refine va_get (D := (dC, dI)) (ci := 2) (v := .int tn) (C := R_T) (T := F_T) (N := 6) hx hb hts i_T hown hK hP 0 rfl rfl 4 (by decide) (hts _ wb_26) (fun _ h9 => h9) rfl d_T_keep_56 ?_
    refine lv_iconst (v := (1 : Int32)) hx hb d_T_keep_59 (by decide) ?_
    refine lv_iadd hx hb d_T_keep_60 ?_
    refine va_put (D := (dC, dI)) (ci := 2) (v := .int (tn + (1 : Int32))) (ty := .int) (C := R_T) (T := F_T) (N := 6) hx hb hts i_T ft_T tk_T n_T hown hK hP hD hS 0 rfl rfl 4 (by decide) (hts _ wb_26) (fun _ h9 => h9) rfl (by decide +kernel) rfl rfl (Nat.le_of_ble_eq_true rfl) d_T_keep_61 (fun H locs hP hD hS => ?_)
    have hP : va_P (dC, dI) vwCl [(aT, .inr (2, [.ref aK, .ref aG, .ref aE, .ref aW, .int (tn + (1 : Int32)), .int ts])), (aK, .inl (cK, 1024, .inl (upd tk tn.toNatClampNeg (vp_nar .byte p0.toInt8.toInt32)))), (aG, .inl (cG, 1024, .inl (upd tb tn.toNatClampNeg p1))), (aE, .inl (cE, 1024, .inl (upd te tn.toNatClampNeg p2))), (aW, .inl (cW, 1024, .inr (.inl (vp_updL tw tn.toNatClampNeg p3))))] H := hP
    have hD : va_D A [(aT, .inr (2, [.ref aK, .ref aG, .ref aE, .ref aW, .int (tn + (1 : Int32)), .int ts])), (aK, .inl (cK, 1024, .inl (upd tk tn.toNatClampNeg (vp_nar .byte p0.toInt8.toInt32)))), (aG, .inl (cG, 1024, .inl (upd tb tn.toNatClampNeg p1))), (aE, .inl (cE, 1024, .inl (upd te tn.toNatClampNeg p2))), (aW, .inl (cW, 1024, .inr (.inl (vp_updL tw tn.toNatClampNeg p3))))] := hD
    refine lv_iload_n hx hb d_T_keep_64 rfl (lv_at hl 3 rfl) ?_
    have ho := Option.some.inj hf
    subst o
    have hP9 := hP.sub (ws' := [(aT, .inr (2, [.ref aK, .ref aG, .ref aE, .ref aW, .int (tn + (1 : Int32)), .int ts])), (aK, .inl (cK, 1024, .inl (upd tk tn.toNatClampNeg (vp_nar .byte p0.toInt8.toInt32)))), (aG, .inl (cG, 1024, .inl (upd tb tn.toNatClampNeg p1))), (aE, .inl (cE, 1024, .inl (upd te tn.toNatClampNeg p2))), (aW, .inl (cW, 1024, .inr (.inl (vp_updL tw tn.toNatClampNeg p3))))]) [0, 1, 2, 3, 4] rfl
    have hD9 := hD.sub (ws' := [(aT, .inr (2, [.ref aK, .ref aG, .ref aE, .ref aW, .int (tn + (1 : Int32)), .int ts])), (aK, .inl (cK, 1024, .inl (upd tk tn.toNatClampNeg (vp_nar .byte p0.toInt8.toInt32)))), (aG, .inl (cG, 1024, .inl (upd tb tn.toNatClampNeg p1))), (aE, .inl (cE, 1024, .inl (upd te tn.toNatClampNeg p2))), (aW, .inl (cW, 1024, .inr (.inl (vp_updL tw tn.toNatClampNeg p3))))]) [0, 1, 2, 3, 4] (by decide) rfl
    exact W.iret (v := p2) hx hb hr (fun t ht hW => ⟨⟨p2, (), rfl, rfl, by rw [ht]; exact hP9, va_K.moved hW.alike hK, hD9⟩, hS.F ht⟩) hS.2.2 d_T_keep_65
  · rw [if_neg c_1] at hf
    refine lv_iconst (v := (-1 : Int32)) hx hb d_T_keep_10 (by decide) ?_
    have ho := Option.some.inj hf
    subst o
    have hP9 := hP.sub (ws' := [(aT, .inr (2, [.ref aK, .ref aG, .ref aE, .ref aW, .int tn, .int ts])), (aK, .inl (cK, 1024, .inl tk)), (aG, .inl (cG, 1024, .inl tb)), (aE, .inl (cE, 1024, .inl te)), (aW, .inl (cW, 1024, .inr (.inl tw)))]) [0, 1, 2, 3, 4] rfl
    have hD9 := hD.sub (ws' := [(aT, .inr (2, [.ref aK, .ref aG, .ref aE, .ref aW, .int tn, .int ts])), (aK, .inl (cK, 1024, .inl tk)), (aG, .inl (cG, 1024, .inl tb)), (aE, .inl (cE, 1024, .inl te)), (aW, .inl (cW, 1024, .inr (.inl tw)))]) [0, 1, 2, 3, 4] (by decide) rfl
    exact W.iret (v := (-1 : Int32)) hx hb hr (fun t ht hW => ⟨⟨(-1 : Int32), (), rfl, rfl, by rw [ht]; exact hP9, va_K.moved hW.alike hK, hD9⟩, hS.F ht⟩) hS.2.2 d_T_keep_11
