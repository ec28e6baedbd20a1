theorem d_L_clear_0 : decode b_L_clear 0 = .ok (.aload_n 0, 1) := by decide +kernel
theorem d_L_clear_1 : decode b_L_clear 1 = .ok (.iconst 0, 1) := by decide +kernel
theorem d_L_clear_2 : decode b_L_clear 2 = .ok (.putfield 15, 3) := by decide +kernel
theorem d_L_clear_5 : decode b_L_clear 5 = .ok (.return_, 1) := by decide +kernel
theorem d_L_size_0 : decode b_L_size 0 = .ok (.aload_n 0, 1) := by decide +kernel
theorem d_L_size_1 : decode b_L_size 1 = .ok (.getfield 15, 3) := by decide +kernel
theorem d_L_size_4 : decode b_L_size 4 = .ok (.ireturn, 1) := by decide +kernel
theorem d_L_at_0 : decode b_L_at 0 = .ok (.iload_n 1, 1) := by decide +kernel
theorem d_L_at_1 : decode b_L_at 1 = .ok (.ifCond .lt 24, 3) := by decide +kernel
theorem d_L_at_4 : decode b_L_at 4 = .ok (.iload_n 1, 1) := by decide +kernel
theorem d_L_at_5 : decode b_L_at 5 = .ok (.aload_n 0, 1) := by decide +kernel
theorem d_L_at_6 : decode b_L_at 6 = .ok (.getfield 15, 3) := by decide +kernel
theorem d_L_at_9 : decode b_L_at 9 = .ok (.if_icmp .ge 16, 3) := by decide +kernel
theorem d_L_at_12 : decode b_L_at 12 = .ok (.aload_n 0, 1) := by decide +kernel
theorem d_L_at_13 : decode b_L_at 13 = .ok (.getfield 9, 3) := by decide +kernel
theorem d_L_at_16 : decode b_L_at 16 = .ok (.iload_n 1, 1) := by decide +kernel
theorem d_L_at_17 : decode b_L_at 17 = .ok (.baload, 1) := by decide +kernel
theorem d_L_at_18 : decode b_L_at 18 = .ok (.sipush 255, 3) := by decide +kernel
theorem d_L_at_21 : decode b_L_at 21 = .ok (.iand, 1) := by decide +kernel
theorem d_L_at_22 : decode b_L_at 22 = .ok (.goto 4, 3) := by decide +kernel
theorem d_L_at_25 : decode b_L_at 25 = .ok (.iconst (-1), 1) := by decide +kernel
theorem d_L_at_26 : decode b_L_at 26 = .ok (.ireturn, 1) := by decide +kernel
theorem d_L_append_0 : decode b_L_append 0 = .ok (.iload_n 3, 1) := by decide +kernel
theorem d_L_append_1 : decode b_L_append 1 = .ok (.iconst 1, 1) := by decide +kernel
theorem d_L_append_2 : decode b_L_append 2 = .ok (.if_icmp .lt 21, 3) := by decide +kernel
theorem d_L_append_5 : decode b_L_append 5 = .ok (.iload_n 3, 1) := by decide +kernel
theorem d_L_append_6 : decode b_L_append 6 = .ok (.bipush 8, 2) := by decide +kernel
theorem d_L_append_8 : decode b_L_append 8 = .ok (.if_icmp .gt 15, 3) := by decide +kernel
theorem d_L_append_11 : decode b_L_append 11 = .ok (.aload_n 0, 1) := by decide +kernel
theorem d_L_append_12 : decode b_L_append 12 = .ok (.getfield 15, 3) := by decide +kernel
theorem d_L_append_15 : decode b_L_append 15 = .ok (.iload_n 3, 1) := by decide +kernel
theorem d_L_append_16 : decode b_L_append 16 = .ok (.iadd, 1) := by decide +kernel
theorem d_L_append_17 : decode b_L_append 17 = .ok (.sipush 1024, 3) := by decide +kernel
theorem d_L_append_20 : decode b_L_append 20 = .ok (.if_icmp .le 5, 3) := by decide +kernel
theorem d_L_append_23 : decode b_L_append 23 = .ok (.iconst 0, 1) := by decide +kernel
theorem d_L_append_24 : decode b_L_append 24 = .ok (.ireturn, 1) := by decide +kernel
theorem d_L_append_25 : decode b_L_append 25 = .ok (.iload_n 3, 1) := by decide +kernel
theorem d_L_append_26 : decode b_L_append 26 = .ok (.iconst 1, 1) := by decide +kernel
theorem d_L_append_27 : decode b_L_append 27 = .ok (.isub, 1) := by decide +kernel
theorem d_L_append_28 : decode b_L_append 28 = .ok (.istore 4, 2) := by decide +kernel
theorem d_L_append_30 : decode b_L_append 30 = .ok (.iload 4, 2) := by decide +kernel
theorem d_L_append_32 : decode b_L_append 32 = .ok (.ifCond .lt 37, 3) := by decide +kernel
theorem d_L_append_35 : decode b_L_append 35 = .ok (.aload_n 0, 1) := by decide +kernel
theorem d_L_append_36 : decode b_L_append 36 = .ok (.getfield 9, 3) := by decide +kernel
theorem d_L_append_39 : decode b_L_append 39 = .ok (.aload_n 0, 1) := by decide +kernel
theorem d_L_append_40 : decode b_L_append 40 = .ok (.getfield 15, 3) := by decide +kernel
theorem d_L_append_43 : decode b_L_append 43 = .ok (.lload_n 1, 1) := by decide +kernel
theorem d_L_append_44 : decode b_L_append 44 = .ok (.bipush 8, 2) := by decide +kernel
theorem d_L_append_46 : decode b_L_append 46 = .ok (.iload 4, 2) := by decide +kernel
theorem d_L_append_48 : decode b_L_append 48 = .ok (.imul, 1) := by decide +kernel
theorem d_L_append_49 : decode b_L_append 49 = .ok (.lushr, 1) := by decide +kernel
theorem d_L_append_50 : decode b_L_append 50 = .ok (.l2i, 1) := by decide +kernel
theorem d_L_append_51 : decode b_L_append 51 = .ok (.i2b, 1) := by decide +kernel
theorem d_L_append_52 : decode b_L_append 52 = .ok (.bastore, 1) := by decide +kernel
theorem d_L_append_53 : decode b_L_append 53 = .ok (.aload_n 0, 1) := by decide +kernel
theorem d_L_append_54 : decode b_L_append 54 = .ok (.dup, 1) := by decide +kernel
theorem d_L_append_55 : decode b_L_append 55 = .ok (.getfield 15, 3) := by decide +kernel
theorem d_L_append_58 : decode b_L_append 58 = .ok (.iconst 1, 1) := by decide +kernel
theorem d_L_append_59 : decode b_L_append 59 = .ok (.iadd, 1) := by decide +kernel
theorem d_L_append_60 : decode b_L_append 60 = .ok (.putfield 15, 3) := by decide +kernel
theorem d_L_append_63 : decode b_L_append 63 = .ok (.iinc 4 (-1), 3) := by decide +kernel
theorem d_L_append_66 : decode b_L_append 66 = .ok (.goto (-36), 3) := by decide +kernel
theorem d_L_append_69 : decode b_L_append 69 = .ok (.iconst 1, 1) := by decide +kernel
theorem d_L_append_70 : decode b_L_append 70 = .ok (.ireturn, 1) := by decide +kernel
theorem d_L_holds_0 : decode b_L_holds 0 = .ok (.aload_n 1, 1) := by decide +kernel
theorem d_L_holds_1 : decode b_L_holds 1 = .ok (.arraylength, 1) := by decide +kernel
theorem d_L_holds_2 : decode b_L_holds 2 = .ok (.iload_n 3, 1) := by decide +kernel
theorem d_L_holds_3 : decode b_L_holds 3 = .ok (.iload_n 2, 1) := by decide +kernel
theorem d_L_holds_4 : decode b_L_holds 4 = .ok (.isub, 1) := by decide +kernel
theorem d_L_holds_5 : decode b_L_holds 5 = .ok (.if_icmp .eq 5, 3) := by decide +kernel
theorem d_L_holds_8 : decode b_L_holds 8 = .ok (.iconst 0, 1) := by decide +kernel
theorem d_L_holds_9 : decode b_L_holds 9 = .ok (.ireturn, 1) := by decide +kernel
theorem d_L_holds_10 : decode b_L_holds 10 = .ok (.iconst 0, 1) := by decide +kernel
theorem d_L_holds_11 : decode b_L_holds 11 = .ok (.istore 4, 2) := by decide +kernel
theorem d_L_holds_13 : decode b_L_holds 13 = .ok (.iload 4, 2) := by decide +kernel
theorem d_L_holds_15 : decode b_L_holds 15 = .ok (.aload_n 1, 1) := by decide +kernel
theorem d_L_holds_16 : decode b_L_holds 16 = .ok (.arraylength, 1) := by decide +kernel
theorem d_L_holds_17 : decode b_L_holds 17 = .ok (.if_icmp .ge 30, 3) := by decide +kernel
theorem d_L_holds_20 : decode b_L_holds 20 = .ok (.aload_n 0, 1) := by decide +kernel
theorem d_L_holds_21 : decode b_L_holds 21 = .ok (.iload_n 2, 1) := by decide +kernel
theorem d_L_holds_22 : decode b_L_holds 22 = .ok (.iload 4, 2) := by decide +kernel
theorem d_L_holds_24 : decode b_L_holds 24 = .ok (.iadd, 1) := by decide +kernel
theorem d_L_holds_25 : decode b_L_holds 25 = .ok (.invokevirtual 25, 3) := by decide +kernel
theorem d_L_holds_28 : decode b_L_holds 28 = .ok (.aload_n 1, 1) := by decide +kernel
theorem d_L_holds_29 : decode b_L_holds 29 = .ok (.iload 4, 2) := by decide +kernel
theorem d_L_holds_31 : decode b_L_holds 31 = .ok (.baload, 1) := by decide +kernel
theorem d_L_holds_32 : decode b_L_holds 32 = .ok (.sipush 255, 3) := by decide +kernel
theorem d_L_holds_35 : decode b_L_holds 35 = .ok (.iand, 1) := by decide +kernel
theorem d_L_holds_36 : decode b_L_holds 36 = .ok (.if_icmp .eq 5, 3) := by decide +kernel
theorem d_L_holds_39 : decode b_L_holds 39 = .ok (.iconst 0, 1) := by decide +kernel
theorem d_L_holds_40 : decode b_L_holds 40 = .ok (.ireturn, 1) := by decide +kernel
theorem d_L_holds_41 : decode b_L_holds 41 = .ok (.iinc 4 1, 3) := by decide +kernel
theorem d_L_holds_44 : decode b_L_holds 44 = .ok (.goto (-31), 3) := by decide +kernel
theorem d_L_holds_47 : decode b_L_holds 47 = .ok (.iconst 1, 1) := by decide +kernel
theorem d_L_holds_48 : decode b_L_holds 48 = .ok (.ireturn, 1) := by decide +kernel
theorem wb_0 : Cond.fieldLink R_L 15 R_L "length" "I" ∈ WB := wbm (i := 89) (by decide +kernel) rfl
theorem wb_1 : Cond.fieldLink R_L 9 R_L "bytes" "[B" ∈ WB := wbm (i := 88) (by decide +kernel) rfl
theorem wb_2 : Cond.methodLink R_L 25 y_L_at ∈ WB := wbm (i := 338) (by decide +kernel) rfl
theorem wb_3 : Cond.code y_L_at b_L_at 2 (some .int) ∈ WB := wbm (i := 238) (by decide +kernel) rfl
theorem wb_4 : Cond.instanceMethod y_L_at ∈ WB := wbm (i := 236) (by decide +kernel) rfl
theorem wb_5 : Cond.selects R_L y_L_at y_L_at ∈ WB := wbm (i := 237) (by decide +kernel) rfl
theorem wb_6 : Cond.initialized R_L ∈ WB := wbm (i := 51) (by decide +kernel) rfl
def f_L_clear (ln : Int32) : Option (Int32) := some ((0 : Int32))
set_option maxHeartbeats 4000000 in
set_option maxRecDepth 100000 in
theorem c_L_clear (l : Launch) (dC : Nat → ClassId) (dI : Nat → Nat → Nat) (aL aB : Nat) (sz : Nat) (ln : Int32) (o : Int32) (hf : f_L_clear ln = some o) : Met l y_L_clear (w_L_clear) ({ frames := 0, cells := 0, slots := 0, locals := 0 }) (va_Pc [.ref aL] (fun U => U.heap.size = sz ∧ va_P (dC, dI) vwCl [(aL, .inr (1, [.ref aB, .int ln]))] U.heap ∧ va_K (dC, dI) vwCl [] U ∧ va_D (fun _ => True) [(aL, .inr (1, [.ref aB, .int ln]))] ∧ NW U)) (va_Qv (fun (_ : Unit) => True) (fun _ t => va_P (dC, dI) vwCl [(aL, .inr (1, [.ref aB, .int o]))] t.heap ∧ va_K (dC, dI) vwCl [] t ∧ va_D (va_A [(aL, .inr (1, [.ref aB, .int ln]))] sz) [(aL, .inr (1, [.ref aB, .int o]))]) (va_A [(aL, .inr (1, [.ref aB, .int ln]))] sz)) 0 0 (va_A [(aL, .inr (1, [.ref aB, .int ln]))] sz) := by
  refine Met.ofW (cc := b_L_clear) (maxL := 1) (ret := none) (by decide) rfl ?_
  intro p e s m args below meth c s₁ B hml hv
  obtain ⟨rfl, hsz, hP, hK, hD0, hN⟩ := hv
  have hx := B.exec
  have hb := B.bytes
  have hr := B.returns
  have hts : ∀ w ∈ WB, w.before _ s = true := fun w h => atoms_spec (ws := w_L_clear) B.pre w (List.mem_cons_of_mem _ h)
  have hown : s.vm.findClass R_L = some m.cls := findClass_of_methodNamed B.named
  have hlocks := B.notSynchronized
  subst hsz
  have hD := hD0.self (sz := s.heap.size)
  generalize hAe : va_A [(aL, .inr (1, [.ref aB, .int ln]))] s.heap.size = A at hD ⊢
  have hA : ∀ q : Nat, s.heap.size ≤ q → A q := fun q h => by rw [← hAe]; exact Or.inr h
  have hS : va_S A s.heap s.heap [] := va_S.rf
  have hP : va_P (dC, dI) vwCl [(aL, .inr (1, [.ref aB, .int ln]))] s.heap := hP
  have hl := lv_entry [.ref aL] (n := 1) (Nat.le_of_ble_eq_true rfl)
  rw [lg_entry_eq]
  generalize (lg_sl [.ref aL] ++ List.replicate (1 - (lg_sl [.ref aL]).length) Slot.unset).toArray = ls at hl ⊢
  have hl : lv_has ls 1 [(0, .ref aL)] := hl
  rw [f_L_clear] at hf
  refine lv_aload_n hx hb d_L_clear_0 rfl (lv_at hl 0 rfl) ?_
  refine lv_iconst (v := (0 : Int32)) hx hb d_L_clear_1 (by decide) ?_
  refine va_put (D := (dC, dI)) (ci := 1) (v := .int (0 : Int32)) (ty := .int) (C := R_L) (T := F_L) (N := 2) hx hb hts i_L ft_L tk_L n_L hown hK hP hD hS 0 rfl rfl 1 (by decide) (hts _ wb_0) (fun _ h9 => h9) rfl (by decide +kernel) rfl rfl (Nat.le_of_ble_eq_true rfl) d_L_clear_2 (fun H locs hP hD hS => ?_)
  have hP : va_P (dC, dI) vwCl [(aL, .inr (1, [.ref aB, .int (0 : Int32)]))] H := hP
  have hD : va_D A [(aL, .inr (1, [.ref aB, .int (0 : Int32)]))] := hD
  have ho := Option.some.inj hf
  subst o
  have hP9 := hP.sub (ws' := [(aL, .inr (1, [.ref aB, .int (0 : Int32)]))]) [0] rfl
  have hD9 := hD.sub (ws' := [(aL, .inr (1, [.ref aB, .int (0 : Int32)]))]) [0] (by decide) rfl
  exact W.vret hx hb hr (fun t ht hW => ⟨⟨(), rfl, trivial, by rw [ht]; exact hP9, va_K.moved hW.alike hK, hD9⟩, hS.F ht⟩) hS.2.2 d_L_clear_5

def f_L_size (ln : Int32) : Option (Int32) := some (ln)
set_option maxHeartbeats 4000000 in
set_option maxRecDepth 100000 in
theorem c_L_size (l : Launch) (dC : Nat → ClassId) (dI : Nat → Nat → Nat) (aL aB : Nat) (sz : Nat) (ln : Int32) (o : Int32) (hf : f_L_size ln = some o) : Met l y_L_size (w_L_size) ({ frames := 0, cells := 0, slots := 0, locals := 0 }) (va_Pc [.ref aL] (fun U => U.heap.size = sz ∧ va_P (dC, dI) vwCl [(aL, .inr (1, [.ref aB, .int ln]))] U.heap ∧ va_K (dC, dI) vwCl [] U ∧ va_D (fun _ => True) [(aL, .inr (1, [.ref aB, .int ln]))] ∧ NW U)) (va_Qi (fun (r : Int32) (_ : Unit) => r = o) (fun _ t => va_P (dC, dI) vwCl [(aL, .inr (1, [.ref aB, .int ln]))] t.heap ∧ va_K (dC, dI) vwCl [] t ∧ va_D (va_A [(aL, .inr (1, [.ref aB, .int ln]))] sz) [(aL, .inr (1, [.ref aB, .int ln]))]) (va_A [(aL, .inr (1, [.ref aB, .int ln]))] sz)) 0 0 (va_A [(aL, .inr (1, [.ref aB, .int ln]))] sz) := by
  refine Met.ofW (cc := b_L_size) (maxL := 1) (ret := (some .int)) (by decide) rfl ?_
  intro p e s m args below meth c s₁ B hml hv
  obtain ⟨rfl, hsz, hP, hK, hD0, hN⟩ := hv
  have hx := B.exec
  have hb := B.bytes
  have hr := B.returns
  have hts : ∀ w ∈ WB, w.before _ s = true := fun w h => atoms_spec (ws := w_L_size) B.pre w (List.mem_cons_of_mem _ h)
  have hown : s.vm.findClass R_L = some m.cls := findClass_of_methodNamed B.named
  have hlocks := B.notSynchronized
  subst hsz
  have hD := hD0.self (sz := s.heap.size)
  generalize hAe : va_A [(aL, .inr (1, [.ref aB, .int ln]))] s.heap.size = A at hD ⊢
  have hA : ∀ q : Nat, s.heap.size ≤ q → A q := fun q h => by rw [← hAe]; exact Or.inr h
  have hS : va_S A s.heap s.heap [] := va_S.rf
  have hP : va_P (dC, dI) vwCl [(aL, .inr (1, [.ref aB, .int ln]))] s.heap := hP
  have hl := lv_entry [.ref aL] (n := 1) (Nat.le_of_ble_eq_true rfl)
  rw [lg_entry_eq]
  generalize (lg_sl [.ref aL] ++ List.replicate (1 - (lg_sl [.ref aL]).length) Slot.unset).toArray = ls at hl ⊢
  have hl : lv_has ls 1 [(0, .ref aL)] := hl
  rw [f_L_size] at hf
  refine lv_aload_n hx hb d_L_size_0 rfl (lv_at hl 0 rfl) ?_
  refine va_get (D := (dC, dI)) (ci := 1) (v := .int ln) (C := R_L) (T := F_L) (N := 2) hx hb hts i_L hown hK hP 0 rfl rfl 1 (by decide) (hts _ wb_0) (fun _ h9 => h9) rfl d_L_size_1 ?_
  have ho := Option.some.inj hf
  subst o
  have hP9 := hP.sub (ws' := [(aL, .inr (1, [.ref aB, .int ln]))]) [0] rfl
  have hD9 := hD.sub (ws' := [(aL, .inr (1, [.ref aB, .int ln]))]) [0] (by decide) rfl
  exact W.iret (v := ln) hx hb hr (fun t ht hW => ⟨⟨ln, (), rfl, rfl, by rw [ht]; exact hP9, va_K.moved hW.alike hK, hD9⟩, hS.F ht⟩) hS.2.2 d_L_size_4

def f_L_at (ln : Int32) (lb : Nat → Int32) (p0 : Int32) : Option (Int32) := if p0 < (0 : Int32) then some ((-1 : Int32)) else if ln ≤ p0 then some ((-1 : Int32)) else gi p0 1024 (some ((lb p0.toNatClampNeg) &&& (255 : Int32)))
set_option maxHeartbeats 4000000 in
set_option maxRecDepth 100000 in
theorem c_L_at (l : Launch) (dC : Nat → ClassId) (dI : Nat → Nat → Nat) (aL aB : Nat) (cB : ClassId) (sz : Nat) (ln : Int32) (lb : Nat → Int32) (p0 : Int32) (o : Int32) (hf : f_L_at ln lb p0 = some o) : Met l y_L_at (w_L_at) ({ frames := 0, cells := 0, slots := 0, locals := 0 }) (va_Pc [.ref aL, .int p0] (fun U => U.heap.size = sz ∧ va_P (dC, dI) vwCl [(aL, .inr (1, [.ref aB, .int ln])), (aB, .inl (cB, 1024, .inl lb))] U.heap ∧ va_K (dC, dI) vwCl [(cB, .byte)] U ∧ va_D (fun _ => True) [(aL, .inr (1, [.ref aB, .int ln])), (aB, .inl (cB, 1024, .inl lb))] ∧ NW U)) (va_Qi (fun (r : Int32) (_ : Unit) => r = o) (fun _ t => va_P (dC, dI) vwCl [(aL, .inr (1, [.ref aB, .int ln])), (aB, .inl (cB, 1024, .inl lb))] t.heap ∧ va_K (dC, dI) vwCl [(cB, .byte)] t ∧ va_D (va_A [(aL, .inr (1, [.ref aB, .int ln])), (aB, .inl (cB, 1024, .inl lb))] sz) [(aL, .inr (1, [.ref aB, .int ln])), (aB, .inl (cB, 1024, .inl lb))]) (va_A [(aL, .inr (1, [.ref aB, .int ln])), (aB, .inl (cB, 1024, .inl lb))] sz)) 0 0 (va_A [(aL, .inr (1, [.ref aB, .int ln])), (aB, .inl (cB, 1024, .inl lb))] sz) := by
  refine Met.ofW (cc := b_L_at) (maxL := 2) (ret := (some .int)) (by decide) rfl ?_
  intro p e s m args below meth c s₁ B hml hv
  obtain ⟨rfl, hsz, hP, hK, hD0, hN⟩ := hv
  have hx := B.exec
  have hb := B.bytes
  have hr := B.returns
  have hts : ∀ w ∈ WB, w.before _ s = true := fun w h => atoms_spec (ws := w_L_at) B.pre w (List.mem_cons_of_mem _ h)
  have hown : s.vm.findClass R_L = some m.cls := findClass_of_methodNamed B.named
  have hlocks := B.notSynchronized
  subst hsz
  have hD := hD0.self (sz := s.heap.size)
  generalize hAe : va_A [(aL, .inr (1, [.ref aB, .int ln])), (aB, .inl (cB, 1024, .inl lb))] s.heap.size = A at hD ⊢
  have hA : ∀ q : Nat, s.heap.size ≤ q → A q := fun q h => by rw [← hAe]; exact Or.inr h
  have hS : va_S A s.heap s.heap [] := va_S.rf
  have hP : va_P (dC, dI) vwCl [(aL, .inr (1, [.ref aB, .int ln])), (aB, .inl (cB, 1024, .inl lb))] s.heap := hP
  have hl := lv_entry [.ref aL, .int p0] (n := 2) (Nat.le_of_ble_eq_true rfl)
  rw [lg_entry_eq]
  generalize (lg_sl [.ref aL, .int p0] ++ List.replicate (2 - (lg_sl [.ref aL, .int p0]).length) Slot.unset).toArray = ls at hl ⊢
  have hl : lv_has ls 2 [(0, .ref aL), (1, .int p0)] := hl
  rw [f_L_at] at hf
  refine lv_iload_n hx hb d_L_at_0 rfl (lv_at hl 1 rfl) ?_
  refine lv_if_lt (tgt := 25) hx hb d_L_at_1 (by decide) (fun c_1 => ?_) (fun c_1 => ?_)
  · rw [if_pos c_1] at hf
    refine lv_iconst (v := (-1 : Int32)) hx hb d_L_at_25 (by decide) ?_
    have ho := Option.some.inj hf
    subst o
    have hP9 := hP.sub (ws' := [(aL, .inr (1, [.ref aB, .int ln])), (aB, .inl (cB, 1024, .inl lb))]) [0, 1] rfl
    have hD9 := hD.sub (ws' := [(aL, .inr (1, [.ref aB, .int ln])), (aB, .inl (cB, 1024, .inl lb))]) [0, 1] (by decide) rfl
    exact W.iret (v := (-1 : Int32)) hx hb hr (fun t ht hW => ⟨⟨(-1 : Int32), (), rfl, rfl, by rw [ht]; exact hP9, va_K.moved hW.alike hK, hD9⟩, hS.F ht⟩) hS.2.2 d_L_at_26
  · rw [if_neg c_1] at hf
    refine lv_iload_n hx hb d_L_at_4 rfl (lv_at hl 1 rfl) ?_
    refine lv_aload_n hx hb d_L_at_5 rfl (lv_at hl 0 rfl) ?_
    refine va_get (D := (dC, dI)) (ci := 1) (v := .int ln) (C := R_L) (T := F_L) (N := 2) hx hb hts i_L hown hK hP 0 rfl rfl 1 (by decide) (hts _ wb_0) (fun _ h9 => h9) rfl d_L_at_6 ?_
    refine lv_icmp_ge (tgt := 25) hx hb d_L_at_9 (by decide) (fun c_2 => ?_) (fun c_2 => ?_)
    · rw [if_pos c_2] at hf
      refine lv_iconst (v := (-1 : Int32)) hx hb d_L_at_25 (by decide) ?_
      have ho := Option.some.inj hf
      subst o
      have hP9 := hP.sub (ws' := [(aL, .inr (1, [.ref aB, .int ln])), (aB, .inl (cB, 1024, .inl lb))]) [0, 1] rfl
      have hD9 := hD.sub (ws' := [(aL, .inr (1, [.ref aB, .int ln])), (aB, .inl (cB, 1024, .inl lb))]) [0, 1] (by decide) rfl
      exact W.iret (v := (-1 : Int32)) hx hb hr (fun t ht hW => ⟨⟨(-1 : Int32), (), rfl, rfl, by rw [ht]; exact hP9, va_K.moved hW.alike hK, hD9⟩, hS.F ht⟩) hS.2.2 d_L_at_26
    · rw [if_neg c_2] at hf
      refine lv_aload_n hx hb d_L_at_12 rfl (lv_at hl 0 rfl) ?_
      refine va_get (D := (dC, dI)) (ci := 1) (v := .ref aB) (C := R_L) (T := F_L) (N := 2) hx hb hts i_L hown hK hP 0 rfl rfl 0 (by decide) (hts _ wb_1) (fun _ h9 => h9) rfl d_L_at_13 ?_
      refine lv_iload_n hx hb d_L_at_16 rfl (lv_at hl 1 rfl) ?_
      obtain ⟨hin, hf⟩ := gi_some hf
      refine va_bald hx hb hK hP 1 0 rfl rfl hin d_L_at_17 ?_
      refine lv_sipush (v := (255 : Int32)) hx hb d_L_at_18 (by decide) ?_
      refine lv_iand hx hb d_L_at_21 ?_
      refine lv_goto (tgt := 26) hx hb d_L_at_22 (by decide) ?_
      have ho := Option.some.inj hf
      subst o
      have hP9 := hP.sub (ws' := [(aL, .inr (1, [.ref aB, .int ln])), (aB, .inl (cB, 1024, .inl lb))]) [0, 1] rfl
      have hD9 := hD.sub (ws' := [(aL, .inr (1, [.ref aB, .int ln])), (aB, .inl (cB, 1024, .inl lb))]) [0, 1] (by decide) rfl
      exact W.iret (v := (lb p0.toNatClampNeg) &&& (255 : Int32)) hx hb hr (fun t ht hW => ⟨⟨(lb p0.toNatClampNeg) &&& (255 : Int32), (), rfl, rfl, by rw [ht]; exact hP9, va_K.moved hW.alike hK, hD9⟩, hS.F ht⟩) hS.2.2 d_L_at_26

def f_L_append_l30 : Nat → Int32 → (Nat → Int32) → Int64 → Int32 → Option (Int32 × Int32 × (Nat → Int32))
  | 0, _, _, _, _ => none
  | n + 1, ln, lb, x1, x4 => if x4 < (0 : Int32) then some ((1 : Int32), ln, lb) else gi ln 1024 (f_L_append_l30 n (ln + (1 : Int32)) (upd lb ln.toNatClampNeg (vp_nar .byte ((((x1.toUInt64 >>> (((8 : Int32) * x4).toInt64.toUInt64 &&& Int64.toUInt64 63)).toInt64).toInt32).toInt8.toInt32))) x1 (x4 + (-1 : Int32)))
def f_L_append (ln : Int32) (lb : Nat → Int32) (p0 : Int64) (p1 : Int32) : Option (Int32 × Int32 × (Nat → Int32)) := if p1 < (1 : Int32) then some ((0 : Int32), ln, lb) else if (8 : Int32) < p1 then some ((0 : Int32), ln, lb) else if (ln + p1) ≤ (1024 : Int32) then f_L_append_l30 FU ln lb p0 (p1 - (1 : Int32)) else some ((0 : Int32), ln, lb)
set_option maxHeartbeats 4000000 in
set_option maxRecDepth 100000 in
theorem c_L_append (l : Launch) (dC : Nat → ClassId) (dI : Nat → Nat → Nat) (aL aB : Nat) (cB : ClassId) (sz : Nat) (ln : Int32) (lb : Nat → Int32) (p0 : Int64) (p1 : Int32) (o : Int32 × Int32 × (Nat → Int32)) (hf : f_L_append ln lb p0 p1 = some o) : Met l y_L_append (w_L_append) ({ frames := 0, cells := 0, slots := 0, locals := 0 }) (va_Pc [.ref aL, .long p0, .int p1] (fun U => U.heap.size = sz ∧ va_P (dC, dI) vwCl [(aL, .inr (1, [.ref aB, .int ln])), (aB, .inl (cB, 1024, .inl lb))] U.heap ∧ va_K (dC, dI) vwCl [(cB, .byte)] U ∧ va_D (fun _ => True) [(aL, .inr (1, [.ref aB, .int ln])), (aB, .inl (cB, 1024, .inl lb))] ∧ NW U)) (va_Qi (fun (r : Int32) (_ : Unit) => r = o.1 ∧ narrow .boolean (.int r) = .int r) (fun _ t => va_P (dC, dI) vwCl [(aL, .inr (1, [.ref aB, .int o.2.1])), (aB, .inl (cB, 1024, .inl o.2.2))] t.heap ∧ va_K (dC, dI) vwCl [(cB, .byte)] t ∧ va_D (va_A [(aL, .inr (1, [.ref aB, .int ln])), (aB, .inl (cB, 1024, .inl lb))] sz) [(aL, .inr (1, [.ref aB, .int o.2.1])), (aB, .inl (cB, 1024, .inl o.2.2))]) (va_A [(aL, .inr (1, [.ref aB, .int ln])), (aB, .inl (cB, 1024, .inl lb))] sz)) 0 0 (va_A [(aL, .inr (1, [.ref aB, .int ln])), (aB, .inl (cB, 1024, .inl lb))] sz) := by
  refine Met.ofW (cc := b_L_append) (maxL := 5) (ret := (some .boolean)) (by decide) rfl ?_
  intro p e s m args below meth c s₁ B hml hv
  obtain ⟨rfl, hsz, hP, hK, hD0, hN⟩ := hv
  have hx := B.exec
  have hb := B.bytes
  have hr := B.returns
  have hts : ∀ w ∈ WB, w.before _ s = true := fun w h => atoms_spec (ws := w_L_append) B.pre w (List.mem_cons_of_mem _ h)
  have hown : s.vm.findClass R_L = some m.cls := findClass_of_methodNamed B.named
  have hlocks := B.notSynchronized
  subst hsz
  have hD := hD0.self (sz := s.heap.size)
  generalize hAe : va_A [(aL, .inr (1, [.ref aB, .int ln])), (aB, .inl (cB, 1024, .inl lb))] s.heap.size = A at hD ⊢
  have hA : ∀ q : Nat, s.heap.size ≤ q → A q := fun q h => by rw [← hAe]; exact Or.inr h
  have hS : va_S A s.heap s.heap [] := va_S.rf
  have hP : va_P (dC, dI) vwCl [(aL, .inr (1, [.ref aB, .int ln])), (aB, .inl (cB, 1024, .inl lb))] s.heap := hP
  have hl := lv_entry [.ref aL, .long p0, .int p1] (n := 5) (Nat.le_of_ble_eq_true rfl)
  rw [lg_entry_eq]
  generalize (lg_sl [.ref aL, .long p0, .int p1] ++ List.replicate (5 - (lg_sl [.ref aL, .long p0, .int p1]).length) Slot.unset).toArray = ls at hl ⊢
  have hl : lv_has ls 5 [(0, .ref aL), (1, .long p0), (3, .int p1)] := hl
  have loop_30 : ∀ (n : Nat) (ln : Int32) (lb : Nat → Int32) (x1 : Int64) (x4 : Int32) (H : Heap) (locs : List Loc) (ls : Array Slot), f_L_append_l30 n ln lb x1 x4 = some o → va_P (dC, dI) vwCl [(aL, .inr (1, [.ref aB, .int ln])), (aB, .inl (cB, 1024, .inl lb))] H → va_D A [(aL, .inr (1, [.ref aB, .int ln])), (aB, .inl (cB, 1024, .inl lb))] → va_S A s.heap H locs → lv_has ls 5 [(0, .ref aL), (1, .long x1), (4, .int x4)] → W p l e (headSpec (w_L_append) ({ frames := 0, cells := 0, slots := 0, locals := 0 })).room s m [.ref aL, .long p0, .int p1].toArray below meth c H locs 0 0 (MQ below (va_Qi (fun (r : Int32) (_ : Unit) => r = o.1 ∧ narrow .boolean (.int r) = .int r) (fun _ t => va_P (dC, dI) vwCl [(aL, .inr (1, [.ref aB, .int o.2.1])), (aB, .inl (cB, 1024, .inl o.2.2))] t.heap ∧ va_K (dC, dI) vwCl [(cB, .byte)] t ∧ va_D A [(aL, .inr (1, [.ref aB, .int o.2.1])), (aB, .inl (cB, 1024, .inl o.2.2))]) A) [.ref aL, .long p0, .int p1].toArray s 0 0 A) (F0 m 30 ls []) := by
    intro n
    induction n with
    | zero => intro ln lb x1 x4 H locs ls hf; exact absurd hf (by simp [f_L_append_l30])
    | succ n ih =>
      intro ln lb x1 x4 H locs ls hf hP hD hS hl
      rw [f_L_append_l30] at hf
      refine lv_iload hx hb d_L_append_30 (lv_at hl 2 rfl) ?_
      refine lv_if_lt (tgt := 69) hx hb d_L_append_32 (by decide) (fun c_4 => ?_) (fun c_4 => ?_)
      · rw [if_pos c_4] at hf
        refine lv_iconst (v := (1 : Int32)) hx hb d_L_append_69 (by decide) ?_
        have ho := Option.some.inj hf
        subst o
        have hP9 := hP.sub (ws' := [(aL, .inr (1, [.ref aB, .int ln])), (aB, .inl (cB, 1024, .inl lb))]) [0, 1] rfl
        have hD9 := hD.sub (ws' := [(aL, .inr (1, [.ref aB, .int ln])), (aB, .inl (cB, 1024, .inl lb))]) [0, 1] (by decide) rfl
        exact W.zret (v := (1 : Int32)) (ty := .boolean) hx hb hr rfl (fun t ht hW => ⟨⟨(1 : Int32), (), rfl, ⟨rfl, rfl⟩, by rw [ht]; exact hP9, va_K.moved hW.alike hK, hD9⟩, hS.F ht⟩) hS.2.2 d_L_append_70
      · rw [if_neg c_4] at hf
        refine lv_aload_n hx hb d_L_append_35 rfl (lv_at hl 0 rfl) ?_
        refine va_get (D := (dC, dI)) (ci := 1) (v := .ref aB) (C := R_L) (T := F_L) (N := 2) hx hb hts i_L hown hK hP 0 rfl rfl 0 (by decide) (hts _ wb_1) (fun _ h9 => h9) rfl d_L_append_36 ?_
        refine lv_aload_n hx hb d_L_append_39 rfl (lv_at hl 0 rfl) ?_
        refine va_get (D := (dC, dI)) (ci := 1) (v := .int ln) (C := R_L) (T := F_L) (N := 2) hx hb hts i_L hown hK hP 0 rfl rfl 1 (by decide) (hts _ wb_0) (fun _ h9 => h9) rfl d_L_append_40 ?_
        refine lv_lload_n hx hb d_L_append_43 rfl (lv_at hl 1 rfl) ?_
        refine lv_bipush (v := (8 : Int32)) hx hb d_L_append_44 (by decide) ?_
        refine lv_iload hx hb d_L_append_46 (lv_at hl 2 rfl) ?_
        refine lv_imul hx hb d_L_append_48 ?_
        refine lv_lushr (v := (x1.toUInt64 >>> (((8 : Int32) * x4).toInt64.toUInt64 &&& Int64.toUInt64 63)).toInt64) hx hb d_L_append_49 rfl ?_
        refine lv_l2i (v := ((x1.toUInt64 >>> (((8 : Int32) * x4).toInt64.toUInt64 &&& Int64.toUInt64 63)).toInt64).toInt32) hx hb d_L_append_50 rfl ?_
        refine lv_i2b (v := (((x1.toUInt64 >>> (((8 : Int32) * x4).toInt64.toUInt64 &&& Int64.toUInt64 63)).toInt64).toInt32).toInt8.toInt32) hx hb d_L_append_51 rfl ?_
        obtain ⟨hin, hf⟩ := gi_some hf
        refine va_bast hx hb hK hP hD hS 1 0 rfl rfl hin d_L_append_52 (fun H locs hP hD hS => ?_)
        have hP : va_P (dC, dI) vwCl [(aL, .inr (1, [.ref aB, .int ln])), (aB, .inl (cB, 1024, .inl (upd lb ln.toNatClampNeg (vp_nar .byte ((((x1.toUInt64 >>> (((8 : Int32) * x4).toInt64.toUInt64 &&& Int64.toUInt64 63)).toInt64).toInt32).toInt8.toInt32)))))] H := hP
        have hD : va_D A [(aL, .inr (1, [.ref aB, .int ln])), (aB, .inl (cB, 1024, .inl (upd lb ln.toNatClampNeg (vp_nar .byte ((((x1.toUInt64 >>> (((8 : Int32) * x4).toInt64.toUInt64 &&& Int64.toUInt64 63)).toInt64).toInt32).toInt8.toInt32)))))] := hD
        refine lv_aload_n hx hb d_L_append_53 rfl (lv_at hl 0 rfl) ?_
        refine lv_dup hx hb d_L_append_54 rfl ?_
        refine va_get (D := (dC, dI)) (ci := 1) (v := .int ln) (C := R_L) (T := F_L) (N := 2) hx hb hts i_L hown hK hP 0 rfl rfl 1 (by decide) (hts _ wb_0) (fun _ h9 => h9) rfl d_L_append_55 ?_
        refine lv_iconst (v := (1 : Int32)) hx hb d_L_append_58 (by decide) ?_
        refine lv_iadd hx hb d_L_append_59 ?_
        refine va_put (D := (dC, dI)) (ci := 1) (v := .int (ln + (1 : Int32))) (ty := .int) (C := R_L) (T := F_L) (N := 2) hx hb hts i_L ft_L tk_L n_L hown hK hP hD hS 0 rfl rfl 1 (by decide) (hts _ wb_0) (fun _ h9 => h9) rfl (by decide +kernel) rfl rfl (Nat.le_of_ble_eq_true rfl) d_L_append_60 (fun H locs hP hD hS => ?_)
        have hP : va_P (dC, dI) vwCl [(aL, .inr (1, [.ref aB, .int (ln + (1 : Int32))])), (aB, .inl (cB, 1024, .inl (upd lb ln.toNatClampNeg (vp_nar .byte ((((x1.toUInt64 >>> (((8 : Int32) * x4).toInt64.toUInt64 &&& Int64.toUInt64 63)).toInt64).toInt32).toInt8.toInt32)))))] H := hP
        have hD : va_D A [(aL, .inr (1, [.ref aB, .int (ln + (1 : Int32))])), (aB, .inl (cB, 1024, .inl (upd lb ln.toNatClampNeg (vp_nar .byte ((((x1.toUInt64 >>> (((8 : Int32) * x4).toInt64.toUInt64 &&& Int64.toUInt64 63)).toInt64).toInt32).toInt8.toInt32)))))] := hD
        refine lv_iinc (v := x4 + (-1 : Int32)) (lv' := [(4, .int (x4 + (-1 : Int32))), (0, .ref aL), (1, .long x1)]) hx hb d_L_append_63 hl (k := 2) rfl rfl (by decide) rfl (fun ls hl => ?_)
        refine lv_goto (tgt := 30) hx hb d_L_append_66 (by decide) ?_
        exact ih (ln + (1 : Int32)) (upd lb ln.toNatClampNeg (vp_nar .byte ((((x1.toUInt64 >>> (((8 : Int32) * x4).toInt64.toUInt64 &&& Int64.toUInt64 63)).toInt64).toInt32).toInt8.toInt32))) x1 (x4 + (-1 : Int32)) H locs ls hf (hP.sub (ws' := [(aL, .inr (1, [.ref aB, .int (ln + (1 : Int32))])), (aB, .inl (cB, 1024, .inl (upd lb ln.toNatClampNeg (vp_nar .byte ((((x1.toUInt64 >>> (((8 : Int32) * x4).toInt64.toUInt64 &&& Int64.toUInt64 63)).toInt64).toInt32).toInt8.toInt32)))))]) [0, 1] rfl) (hD.sub (ws' := [(aL, .inr (1, [.ref aB, .int (ln + (1 : Int32))])), (aB, .inl (cB, 1024, .inl (upd lb ln.toNatClampNeg (vp_nar .byte ((((x1.toUInt64 >>> (((8 : Int32) * x4).toInt64.toUInt64 &&& Int64.toUInt64 63)).toInt64).toInt32).toInt8.toInt32)))))]) [0, 1] (by decide) rfl) hS (lv_sub hl [1, 2, 0] rfl)
  rw [f_L_append] at hf
  refine lv_iload_n hx hb d_L_append_0 rfl (lv_at hl 2 rfl) ?_
  refine lv_iconst (v := (1 : Int32)) hx hb d_L_append_1 (by decide) ?_
  refine lv_icmp_lt (tgt := 23) hx hb d_L_append_2 (by decide) (fun c_1 => ?_) (fun c_1 => ?_)
  · rw [if_pos c_1] at hf
    refine lv_iconst (v := (0 : Int32)) hx hb d_L_append_23 (by decide) ?_
    have ho := Option.some.inj hf
    subst o
    have hP9 := hP.sub (ws' := [(aL, .inr (1, [.ref aB, .int ln])), (aB, .inl (cB, 1024, .inl lb))]) [0, 1] rfl
    have hD9 := hD.sub (ws' := [(aL, .inr (1, [.ref aB, .int ln])), (aB, .inl (cB, 1024, .inl lb))]) [0, 1] (by decide) rfl
    exact W.zret (v := (0 : Int32)) (ty := .boolean) hx hb hr rfl (fun t ht hW => ⟨⟨(0 : Int32), (), rfl, ⟨rfl, rfl⟩, by rw [ht]; exact hP9, va_K.moved hW.alike hK, hD9⟩, hS.F ht⟩) hS.2.2 d_L_append_24
  · rw [if_neg c_1] at hf
    refine lv_iload_n hx hb d_L_append_5 rfl (lv_at hl 2 rfl) ?_
    refine lv_bipush (v := (8 : Int32)) hx hb d_L_append_6 (by decide) ?_
    refine lv_icmp_gt (tgt := 23) hx hb d_L_append_8 (by decide) (fun c_2 => ?_) (fun c_2 => ?_)
    · rw [if_pos c_2] at hf
      refine lv_iconst (v := (0 : Int32)) hx hb d_L_append_23 (by decide) ?_
      have ho := Option.some.inj hf
      subst o
      have hP9 := hP.sub (ws' := [(aL, .inr (1, [.ref aB, .int ln])), (aB, .inl (cB, 1024, .inl lb))]) [0, 1] rfl
      have hD9 := hD.sub (ws' := [(aL, .inr (1, [.ref aB, .int ln])), (aB, .inl (cB, 1024, .inl lb))]) [0, 1] (by decide) rfl
      exact W.zret (v := (0 : Int32)) (ty := .boolean) hx hb hr rfl (fun t ht hW => ⟨⟨(0 : Int32), (), rfl, ⟨rfl, rfl⟩, by rw [ht]; exact hP9, va_K.moved hW.alike hK, hD9⟩, hS.F ht⟩) hS.2.2 d_L_append_24
    · rw [if_neg c_2] at hf
      refine lv_aload_n hx hb d_L_append_11 rfl (lv_at hl 0 rfl) ?_
      refine va_get (D := (dC, dI)) (ci := 1) (v := .int ln) (C := R_L) (T := F_L) (N := 2) hx hb hts i_L hown hK hP 0 rfl rfl 1 (by decide) (hts _ wb_0) (fun _ h9 => h9) rfl d_L_append_12 ?_
      refine lv_iload_n hx hb d_L_append_15 rfl (lv_at hl 2 rfl) ?_
      refine lv_iadd hx hb d_L_append_16 ?_
      refine lv_sipush (v := (1024 : Int32)) hx hb d_L_append_17 (by decide) ?_
      refine lv_icmp_le (tgt := 25) hx hb d_L_append_20 (by decide) (fun c_3 => ?_) (fun c_3 => ?_)
      · rw [if_pos c_3] at hf
        refine lv_iload_n hx hb d_L_append_25 rfl (lv_at hl 2 rfl) ?_
        refine lv_iconst (v := (1 : Int32)) hx hb d_L_append_26 (by decide) ?_
        refine lv_isub hx hb d_L_append_27 ?_
        refine lv_istore (lv' := [(4, .int (p1 - (1 : Int32))), (0, .ref aL), (1, .long p0), (3, .int p1)]) hx hb d_L_append_28 hl (by decide) rfl (fun ls hl => ?_)
        exact loop_30 FU ln lb p0 (p1 - (1 : Int32)) s.heap [] ls hf (hP.sub (ws' := [(aL, .inr (1, [.ref aB, .int ln])), (aB, .inl (cB, 1024, .inl lb))]) [0, 1] rfl) (hD.sub (ws' := [(aL, .inr (1, [.ref aB, .int ln])), (aB, .inl (cB, 1024, .inl lb))]) [0, 1] (by decide) rfl) hS (lv_sub hl [1, 2, 0] rfl)
      · rw [if_neg c_3] at hf
        refine lv_iconst (v := (0 : Int32)) hx hb d_L_append_23 (by decide) ?_
        have ho := Option.some.inj hf
        subst o
        have hP9 := hP.sub (ws' := [(aL, .inr (1, [.ref aB, .int ln])), (aB, .inl (cB, 1024, .inl lb))]) [0, 1] rfl
        have hD9 := hD.sub (ws' := [(aL, .inr (1, [.ref aB, .int ln])), (aB, .inl (cB, 1024, .inl lb))]) [0, 1] (by decide) rfl
        exact W.zret (v := (0 : Int32)) (ty := .boolean) hx hb hr rfl (fun t ht hW => ⟨⟨(0 : Int32), (), rfl, ⟨rfl, rfl⟩, by rw [ht]; exact hP9, va_K.moved hW.alike hK, hD9⟩, hS.F ht⟩) hS.2.2 d_L_append_24

def f_L_holds_l13 : Nat → Int32 → (Nat → Int32) → Nat → (Nat → Int32) → Int32 → Int32 → Option (Int32)
  | 0, _, _, _, _, _, _ => none
  | n + 1, ln, lb, nq, lq, x2, x4 => if (Int32.ofNat nq) ≤ x4 then some ((1 : Int32)) else (f_L_at ln lb (x2 + x4)).bind (fun o_3 => gi x4 nq (if o_3 = ((lq x4.toNatClampNeg) &&& (255 : Int32)) then f_L_holds_l13 n ln lb nq lq x2 (x4 + (1 : Int32)) else some ((0 : Int32))))
def f_L_holds (ln : Int32) (lb : Nat → Int32) (nq : Nat) (lq : Nat → Int32) (p1 : Int32) (p2 : Int32) : Option (Int32) := if (Int32.ofNat nq) = (p2 - p1) then f_L_holds_l13 FU ln lb nq lq p1 (0 : Int32) else some ((0 : Int32))
set_option maxHeartbeats 4000000 in
set_option maxRecDepth 100000 in
theorem c_L_holds (l : Launch) (dC : Nat → ClassId) (dI : Nat → Nat → Nat) (aL aB aq : Nat) (cB cq : ClassId) (sz : Nat) (ln : Int32) (lb : Nat → Int32) (nq : Nat) (lq : Nat → Int32) (p1 : Int32) (p2 : Int32) (o : Int32) (hf : f_L_holds ln lb nq lq p1 p2 = some o) : Met l y_L_holds (w_L_holds) ({ frames := 1, cells := 0, slots := 0, locals := 21 }) (va_Pc [.ref aL, .ref aq, .int p1, .int p2] (fun U => U.heap.size = sz ∧ va_P (dC, dI) vwCl [(aL, .inr (1, [.ref aB, .int ln])), (aB, .inl (cB, 1024, .inl lb)), (aq, .inl (cq, nq, .inl lq))] U.heap ∧ va_K (dC, dI) vwCl [(cB, .byte), (cq, .byte)] U ∧ va_D (fun _ => True) [(aL, .inr (1, [.ref aB, .int ln])), (aB, .inl (cB, 1024, .inl lb)), (aq, .inl (cq, nq, .inl lq))] ∧ NW U)) (va_Qi (fun (r : Int32) (_ : Unit) => r = o ∧ narrow .boolean (.int r) = .int r) (fun _ t => va_P (dC, dI) vwCl [(aL, .inr (1, [.ref aB, .int ln])), (aB, .inl (cB, 1024, .inl lb)), (aq, .inl (cq, nq, .inl lq))] t.heap ∧ va_K (dC, dI) vwCl [(cB, .byte), (cq, .byte)] t ∧ va_D (va_A [(aL, .inr (1, [.ref aB, .int ln])), (aB, .inl (cB, 1024, .inl lb)), (aq, .inl (cq, nq, .inl lq))] sz) [(aL, .inr (1, [.ref aB, .int ln])), (aB, .inl (cB, 1024, .inl lb)), (aq, .inl (cq, nq, .inl lq))]) (va_A [(aL, .inr (1, [.ref aB, .int ln])), (aB, .inl (cB, 1024, .inl lb)), (aq, .inl (cq, nq, .inl lq))] sz)) 0 0 (va_A [(aL, .inr (1, [.ref aB, .int ln])), (aB, .inl (cB, 1024, .inl lb)), (aq, .inl (cq, nq, .inl lq))] sz) := by
  refine Met.ofW (cc := b_L_holds) (maxL := 5) (ret := (some .boolean)) (by decide) rfl ?_
  intro p e s m args below meth c s₁ B hml hv
  obtain ⟨rfl, hsz, hP, hK, hD0, hN⟩ := hv
  have hx := B.exec
  have hb := B.bytes
  have hr := B.returns
  have hts : ∀ w ∈ WB, w.before _ s = true := fun w h => atoms_spec (ws := w_L_holds) B.pre w (List.mem_cons_of_mem _ h)
  have hown : s.vm.findClass R_L = some m.cls := findClass_of_methodNamed B.named
  have hlocks := B.notSynchronized
  subst hsz
  have hD := hD0.self (sz := s.heap.size)
  generalize hAe : va_A [(aL, .inr (1, [.ref aB, .int ln])), (aB, .inl (cB, 1024, .inl lb)), (aq, .inl (cq, nq, .inl lq))] s.heap.size = A at hD ⊢
  have hA : ∀ q : Nat, s.heap.size ≤ q → A q := fun q h => by rw [← hAe]; exact Or.inr h
  have hS : va_S A s.heap s.heap [] := va_S.rf
  have hP : va_P (dC, dI) vwCl [(aL, .inr (1, [.ref aB, .int ln])), (aB, .inl (cB, 1024, .inl lb)), (aq, .inl (cq, nq, .inl lq))] s.heap := hP
  have hl := lv_entry [.ref aL, .ref aq, .int p1, .int p2] (n := 5) (Nat.le_of_ble_eq_true rfl)
  rw [lg_entry_eq]
  generalize (lg_sl [.ref aL, .ref aq, .int p1, .int p2] ++ List.replicate (5 - (lg_sl [.ref aL, .ref aq, .int p1, .int p2]).length) Slot.unset).toArray = ls at hl ⊢
  have hl : lv_has ls 5 [(0, .ref aL), (1, .ref aq), (2, .int p1), (3, .int p2)] := hl
  have loop_13 : ∀ (n : Nat) (ln : Int32) (lb : Nat → Int32) (nq : Nat) (lq : Nat → Int32) (x2 : Int32) (x4 : Int32) (H : Heap) (locs : List Loc) (ls : Array Slot), f_L_holds_l13 n ln lb nq lq x2 x4 = some o → va_P (dC, dI) vwCl [(aL, .inr (1, [.ref aB, .int ln])), (aB, .inl (cB, 1024, .inl lb)), (aq, .inl (cq, nq, .inl lq))] H → va_D A [(aL, .inr (1, [.ref aB, .int ln])), (aB, .inl (cB, 1024, .inl lb)), (aq, .inl (cq, nq, .inl lq))] → va_S A s.heap H locs → lv_has ls 5 [(0, .ref aL), (1, .ref aq), (2, .int x2), (4, .int x4)] → W p l e (headSpec (w_L_holds) ({ frames := 1, cells := 0, slots := 0, locals := 21 })).room s m [.ref aL, .ref aq, .int p1, .int p2].toArray below meth c H locs 0 0 (MQ below (va_Qi (fun (r : Int32) (_ : Unit) => r = o ∧ narrow .boolean (.int r) = .int r) (fun _ t => va_P (dC, dI) vwCl [(aL, .inr (1, [.ref aB, .int ln])), (aB, .inl (cB, 1024, .inl lb)), (aq, .inl (cq, nq, .inl lq))] t.heap ∧ va_K (dC, dI) vwCl [(cB, .byte), (cq, .byte)] t ∧ va_D A [(aL, .inr (1, [.ref aB, .int ln])), (aB, .inl (cB, 1024, .inl lb)), (aq, .inl (cq, nq, .inl lq))]) A) [.ref aL, .ref aq, .int p1, .int p2].toArray s 0 0 A) (F0 m 13 ls []) := by
    intro n
    induction n with
    | zero => intro ln lb nq lq x2 x4 H locs ls hf; exact absurd hf (by simp [f_L_holds_l13])
    | succ n ih =>
      intro ln lb nq lq x2 x4 H locs ls hf hP hD hS hl
      rw [f_L_holds_l13] at hf
      refine lv_iload hx hb d_L_holds_13 (lv_at hl 3 rfl) ?_
      refine lv_aload_n hx hb d_L_holds_15 rfl (lv_at hl 1 rfl) ?_
      refine va_alen (v := Int32.ofNat nq) hx hb hK hP 2 1 rfl rfl rfl d_L_holds_16 ?_
      refine lv_icmp_ge (tgt := 47) hx hb d_L_holds_17 (by decide) (fun c_2 => ?_) (fun c_2 => ?_)
      · rw [if_pos c_2] at hf
        refine lv_iconst (v := (1 : Int32)) hx hb d_L_holds_47 (by decide) ?_
        have ho := Option.some.inj hf
        subst o
        have hP9 := hP.sub (ws' := [(aL, .inr (1, [.ref aB, .int ln])), (aB, .inl (cB, 1024, .inl lb)), (aq, .inl (cq, nq, .inl lq))]) [0, 1, 2] rfl
        have hD9 := hD.sub (ws' := [(aL, .inr (1, [.ref aB, .int ln])), (aB, .inl (cB, 1024, .inl lb)), (aq, .inl (cq, nq, .inl lq))]) [0, 1, 2] (by decide) rfl
        exact W.zret (v := (1 : Int32)) (ty := .boolean) hx hb hr rfl (fun t ht hW => ⟨⟨(1 : Int32), (), rfl, ⟨rfl, rfl⟩, by rw [ht]; exact hP9, va_K.moved hW.alike hK, hD9⟩, hS.F ht⟩) hS.2.2 d_L_holds_48
      · rw [if_neg c_2] at hf
        refine lv_aload_n hx hb d_L_holds_20 rfl (lv_at hl 0 rfl) ?_
        refine lv_iload_n hx hb d_L_holds_21 rfl (lv_at hl 2 rfl) ?_
        refine lv_iload hx hb d_L_holds_22 (lv_at hl 3 rfl) ?_
        refine lv_iadd hx hb d_L_holds_24 ?_
        obtain ⟨o_3, hM_3, hf⟩ := bd_some hf
        refine cr_i (va_runV (As := [.int (x2 + x4)]) (rest := []) ⟨hx, hb, hml, hown, hts⟩ (c_L_at l dC dI aL aB cB H.size ln lb (x2 + x4) o_3 hM_3) (cwV 1 hts (gwV wb_2 wb_4 wb_5 wb_6 wb_3) rfl rfl rfl (by decide +kernel) ⟨Nat.le_of_ble_eq_true rfl, Nat.le_of_ble_eq_true rfl⟩) (pr_V (hP.sub [0, 1] rfl) (hD.sub [0, 1] (by decide) rfl) hK hN [0] rfl (ci := 1) rfl rfl rfl) rfl rfl hl.1 rfl (lv_room (Nat.le_of_ble_eq_true rfl)) d_L_holds_25 ⟨Nat.zero_le _, Nat.zero_le _⟩) hP hD hS hA (in_of [0, 1] rfl) (fun r_3 H locs hw hP hS => ?_)
        subst r_3
        refine lv_aload_n hx hb d_L_holds_28 rfl (lv_at hl 1 rfl) ?_
        refine lv_iload hx hb d_L_holds_29 (lv_at hl 3 rfl) ?_
        obtain ⟨hin, hf⟩ := gi_some hf
        refine va_bald hx hb hK hP 2 1 rfl rfl hin d_L_holds_31 ?_
        refine lv_sipush (v := (255 : Int32)) hx hb d_L_holds_32 (by decide) ?_
        refine lv_iand hx hb d_L_holds_35 ?_
        refine lv_icmp_eq (tgt := 41) hx hb d_L_holds_36 (by decide) (fun c_4 => ?_) (fun c_4 => ?_)
        · rw [if_pos c_4] at hf
          refine lv_iinc (v := x4 + (1 : Int32)) (lv' := [(4, .int (x4 + (1 : Int32))), (0, .ref aL), (1, .ref aq), (2, .int x2)]) hx hb d_L_holds_41 hl (k := 3) rfl rfl (by decide) rfl (fun ls hl => ?_)
          refine lv_goto (tgt := 13) hx hb d_L_holds_44 (by decide) ?_
          exact ih ln lb nq lq x2 (x4 + (1 : Int32)) H locs ls hf (hP.sub (ws' := [(aL, .inr (1, [.ref aB, .int ln])), (aB, .inl (cB, 1024, .inl lb)), (aq, .inl (cq, nq, .inl lq))]) [0, 1, 2] rfl) (hD.sub (ws' := [(aL, .inr (1, [.ref aB, .int ln])), (aB, .inl (cB, 1024, .inl lb)), (aq, .inl (cq, nq, .inl lq))]) [0, 1, 2] (by decide) rfl) hS (lv_sub hl [1, 2, 3, 0] rfl)
        · rw [if_neg c_4] at hf
          refine lv_iconst (v := (0 : Int32)) hx hb d_L_holds_39 (by decide) ?_
          have ho := Option.some.inj hf
          subst o
          have hP9 := hP.sub (ws' := [(aL, .inr (1, [.ref aB, .int ln])), (aB, .inl (cB, 1024, .inl lb)), (aq, .inl (cq, nq, .inl lq))]) [0, 1, 2] rfl
          have hD9 := hD.sub (ws' := [(aL, .inr (1, [.ref aB, .int ln])), (aB, .inl (cB, 1024, .inl lb)), (aq, .inl (cq, nq, .inl lq))]) [0, 1, 2] (by decide) rfl
          exact W.zret (v := (0 : Int32)) (ty := .boolean) hx hb hr rfl (fun t ht hW => ⟨⟨(0 : Int32), (), rfl, ⟨rfl, rfl⟩, by rw [ht]; exact hP9, va_K.moved hW.alike hK, hD9⟩, hS.F ht⟩) hS.2.2 d_L_holds_40
  rw [f_L_holds] at hf
  refine lv_aload_n hx hb d_L_holds_0 rfl (lv_at hl 1 rfl) ?_
  refine va_alen (v := Int32.ofNat nq) hx hb hK hP 2 1 rfl rfl rfl d_L_holds_1 ?_
  refine lv_iload_n hx hb d_L_holds_2 rfl (lv_at hl 3 rfl) ?_
  refine lv_iload_n hx hb d_L_holds_3 rfl (lv_at hl 2 rfl) ?_
  refine lv_isub hx hb d_L_holds_4 ?_
  refine lv_icmp_eq (tgt := 10) hx hb d_L_holds_5 (by decide) (fun c_1 => ?_) (fun c_1 => ?_)
  · rw [if_pos c_1] at hf
    refine lv_iconst (v := (0 : Int32)) hx hb d_L_holds_10 (by decide) ?_
    refine lv_istore (lv' := [(4, .int (0 : Int32)), (0, .ref aL), (1, .ref aq), (2, .int p1), (3, .int p2)]) hx hb d_L_holds_11 hl (by decide) rfl (fun ls hl => ?_)
    exact loop_13 FU ln lb nq lq p1 (0 : Int32) s.heap [] ls hf (hP.sub (ws' := [(aL, .inr (1, [.ref aB, .int ln])), (aB, .inl (cB, 1024, .inl lb)), (aq, .inl (cq, nq, .inl lq))]) [0, 1, 2] rfl) (hD.sub (ws' := [(aL, .inr (1, [.ref aB, .int ln])), (aB, .inl (cB, 1024, .inl lb)), (aq, .inl (cq, nq, .inl lq))]) [0, 1, 2] (by decide) rfl) hS (lv_sub hl [1, 2, 3, 0] rfl)
  · rw [if_neg c_1] at hf
    refine lv_iconst (v := (0 : Int32)) hx hb d_L_holds_8 (by decide) ?_
    have ho := Option.some.inj hf
    subst o
    have hP9 := hP.sub (ws' := [(aL, .inr (1, [.ref aB, .int ln])), (aB, .inl (cB, 1024, .inl lb)), (aq, .inl (cq, nq, .inl lq))]) [0, 1, 2] rfl
    have hD9 := hD.sub (ws' := [(aL, .inr (1, [.ref aB, .int ln])), (aB, .inl (cB, 1024, .inl lb)), (aq, .inl (cq, nq, .inl lq))]) [0, 1, 2] (by decide) rfl
    exact W.zret (v := (0 : Int32)) (ty := .boolean) hx hb hr rfl (fun t ht hW => ⟨⟨(0 : Int32), (), rfl, ⟨rfl, rfl⟩, by rw [ht]; exact hP9, va_K.moved hW.alike hK, hD9⟩, hS.F ht⟩) hS.2.2 d_L_holds_9
