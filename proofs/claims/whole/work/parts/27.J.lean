theorem d_L_copy_0 : decode b_L_copy 0 = .ok (.iload_n 1, 1) := by decide +kernel
theorem d_L_copy_1 : decode b_L_copy 1 = .ok (.ifCond .lt 16, 3) := by decide +kernel
theorem d_L_copy_4 : decode b_L_copy 4 = .ok (.iload_n 1, 1) := by decide +kernel
theorem d_L_copy_5 : decode b_L_copy 5 = .ok (.iload_n 2, 1) := by decide +kernel
theorem d_L_copy_6 : decode b_L_copy 6 = .ok (.if_icmp .gt 11, 3) := by decide +kernel
theorem d_L_copy_9 : decode b_L_copy 9 = .ok (.iload_n 2, 1) := by decide +kernel
theorem d_L_copy_10 : decode b_L_copy 10 = .ok (.aload_n 0, 1) := by decide +kernel
theorem d_L_copy_11 : decode b_L_copy 11 = .ok (.getfield 15, 3) := by decide +kernel
theorem d_L_copy_14 : decode b_L_copy 14 = .ok (.if_icmp .le 7, 3) := by decide +kernel
theorem d_L_copy_17 : decode b_L_copy 17 = .ok (.iconst 0, 1) := by decide +kernel
theorem d_L_copy_18 : decode b_L_copy 18 = .ok (.newarray .byte, 2) := by decide +kernel
theorem d_L_copy_20 : decode b_L_copy 20 = .ok (.areturn, 1) := by decide +kernel
theorem d_L_copy_21 : decode b_L_copy 21 = .ok (.aload_n 0, 1) := by decide +kernel
theorem d_L_copy_22 : decode b_L_copy 22 = .ok (.getfield 9, 3) := by decide +kernel
theorem d_L_copy_25 : decode b_L_copy 25 = .ok (.iload_n 1, 1) := by decide +kernel
theorem d_L_copy_26 : decode b_L_copy 26 = .ok (.iload_n 2, 1) := by decide +kernel
theorem d_L_copy_27 : decode b_L_copy 27 = .ok (.invokestatic 19, 3) := by decide +kernel
theorem d_L_copy_30 : decode b_L_copy 30 = .ok (.areturn, 1) := by decide +kernel
theorem d_N_init_0 : decode b_N_init 0 = .ok (.aload_n 0, 1) := by decide +kernel
theorem d_N_init_1 : decode b_N_init 1 = .ok (.invokespecial 1, 3) := by decide +kernel
theorem d_N_init_4 : decode b_N_init 4 = .ok (.aload_n 0, 1) := by decide +kernel
theorem d_N_init_5 : decode b_N_init 5 = .ok (.aload_n 1, 1) := by decide +kernel
theorem d_N_init_6 : decode b_N_init 6 = .ok (.putfield 7, 3) := by decide +kernel
theorem d_N_init_9 : decode b_N_init 9 = .ok (.aload_n 0, 1) := by decide +kernel
theorem d_N_init_10 : decode b_N_init 10 = .ok (.iload_n 2, 1) := by decide +kernel
theorem d_N_init_11 : decode b_N_init 11 = .ok (.putfield 13, 3) := by decide +kernel
theorem d_N_init_14 : decode b_N_init 14 = .ok (.aload_n 0, 1) := by decide +kernel
theorem d_N_init_15 : decode b_N_init 15 = .ok (.lload_n 3, 1) := by decide +kernel
theorem d_N_init_16 : decode b_N_init 16 = .ok (.putfield 17, 3) := by decide +kernel
theorem d_N_init_19 : decode b_N_init 19 = .ok (.aload_n 0, 1) := by decide +kernel
theorem d_N_init_20 : decode b_N_init 20 = .ok (.iload 5, 2) := by decide +kernel
theorem d_N_init_22 : decode b_N_init 22 = .ok (.putfield 21, 3) := by decide +kernel
theorem d_N_init_25 : decode b_N_init 25 = .ok (.return_, 1) := by decide +kernel
theorem wb_366 : Cond.methodLink R_N 1 objectInit ∈ WB := wbm (i := 649) (by decide +kernel) rfl
theorem wb_367 : Cond.instanceMethod objectInit ∈ WB := wbm (i := 80) (by decide +kernel) rfl
theorem wb_368 : Cond.code objectInit ⟨#[0xb1]⟩ 1 none ∈ WB := wbm (i := 81) (by decide +kernel) rfl
theorem wb_369 : Cond.fieldLink R_N 7 R_N "letters" "[B" ∈ WB := wbm (i := 650) (by decide +kernel) rfl
theorem wb_370 : Cond.fieldLink R_N 13 R_N "barred" "Z" ∈ WB := wbm (i := 652) (by decide +kernel) rfl
theorem wb_371 : Cond.fieldLink R_N 17 R_N "worth" "J" ∈ WB := wbm (i := 654) (by decide +kernel) rfl
theorem wb_372 : Cond.fieldLink R_N 21 R_N "where" "I" ∈ WB := wbm (i := 656) (by decide +kernel) rfl
/-! java.util.Arrays.copyOfRange of bytes, on the road that names take -/
def R_J : String := "java/util/Arrays"
abbrev b_J_checkLength : ByteArray := prog_24_method_131_code
def y_J_checkLength : MethodName := ⟨R_J, "checkLength", "(II)V"⟩
abbrev b_J_rangeByte : ByteArray := prog_24_method_133_code
def y_J_rangeByte : MethodName := ⟨R_J, "copyOfRangeByte", "([BII)[B"⟩
abbrev b_J_range : ByteArray := prog_24_method_132_code
def y_J_range : MethodName := ⟨R_J, "copyOfRange", "([BII)[B"⟩
abbrev w_J_checkLength : List Cond := .code y_J_checkLength b_J_checkLength 2 none :: WB
abbrev w_J_rangeByte : List Cond := .code y_J_rangeByte b_J_rangeByte 5 (some (.array .byte)) :: WB
abbrev w_J_range : List Cond := .code y_J_range b_J_range 3 (some (.array .byte)) :: WB
theorem d_J_checkLength_0 : decode b_J_checkLength 0 = .ok (.iload_n 1, 1) := by decide +kernel
theorem d_J_checkLength_1 : decode b_J_checkLength 1 = .ok (.iload_n 0, 1) := by decide +kernel
theorem d_J_checkLength_2 : decode b_J_checkLength 2 = .ok (.if_icmp .ge 35, 3) := by decide +kernel
theorem d_J_checkLength_37 : decode b_J_checkLength 37 = .ok (.return_, 1) := by decide +kernel
theorem d_J_rangeByte_0 : decode b_J_rangeByte 0 = .ok (.iload_n 1, 1) := by decide +kernel
theorem d_J_rangeByte_1 : decode b_J_rangeByte 1 = .ok (.iload_n 2, 1) := by decide +kernel
theorem d_J_rangeByte_2 : decode b_J_rangeByte 2 = .ok (.invokestatic 343, 3) := by decide +kernel
theorem d_J_rangeByte_5 : decode b_J_rangeByte 5 = .ok (.iload_n 2, 1) := by decide +kernel
theorem d_J_rangeByte_6 : decode b_J_rangeByte 6 = .ok (.iload_n 1, 1) := by decide +kernel
theorem d_J_rangeByte_7 : decode b_J_rangeByte 7 = .ok (.isub, 1) := by decide +kernel
theorem d_J_rangeByte_8 : decode b_J_rangeByte 8 = .ok (.istore_n 3, 1) := by decide +kernel
theorem d_J_rangeByte_9 : decode b_J_rangeByte 9 = .ok (.iload_n 3, 1) := by decide +kernel
theorem d_J_rangeByte_10 : decode b_J_rangeByte 10 = .ok (.newarray .byte, 2) := by decide +kernel
theorem d_J_rangeByte_12 : decode b_J_rangeByte 12 = .ok (.astore 4, 2) := by decide +kernel
theorem d_J_rangeByte_14 : decode b_J_rangeByte 14 = .ok (.aload_n 0, 1) := by decide +kernel
theorem d_J_rangeByte_15 : decode b_J_rangeByte 15 = .ok (.iload_n 1, 1) := by decide +kernel
theorem d_J_rangeByte_16 : decode b_J_rangeByte 16 = .ok (.aload 4, 2) := by decide +kernel
theorem d_J_rangeByte_18 : decode b_J_rangeByte 18 = .ok (.iconst 0, 1) := by decide +kernel
theorem d_J_rangeByte_19 : decode b_J_rangeByte 19 = .ok (.aload_n 0, 1) := by decide +kernel
theorem d_J_rangeByte_20 : decode b_J_rangeByte 20 = .ok (.arraylength, 1) := by decide +kernel
theorem d_J_rangeByte_21 : decode b_J_rangeByte 21 = .ok (.iload_n 1, 1) := by decide +kernel
theorem d_J_rangeByte_22 : decode b_J_rangeByte 22 = .ok (.isub, 1) := by decide +kernel
theorem d_J_rangeByte_23 : decode b_J_rangeByte 23 = .ok (.iload_n 3, 1) := by decide +kernel
theorem d_J_rangeByte_24 : decode b_J_rangeByte 24 = .ok (.invokestatic 304, 3) := by decide +kernel
theorem d_J_rangeByte_27 : decode b_J_rangeByte 27 = .ok (.invokestatic 150, 3) := by decide +kernel
theorem d_J_rangeByte_30 : decode b_J_rangeByte 30 = .ok (.aload 4, 2) := by decide +kernel
theorem d_J_rangeByte_32 : decode b_J_rangeByte 32 = .ok (.areturn, 1) := by decide +kernel
theorem d_J_range_0 : decode b_J_range 0 = .ok (.iload_n 1, 1) := by decide +kernel
theorem d_J_range_1 : decode b_J_range 1 = .ok (.ifCond .ne 9, 3) := by decide +kernel
theorem d_J_range_4 : decode b_J_range 4 = .ok (.iload_n 2, 1) := by decide +kernel
theorem d_J_range_5 : decode b_J_range 5 = .ok (.aload_n 0, 1) := by decide +kernel
theorem d_J_range_6 : decode b_J_range 6 = .ok (.arraylength, 1) := by decide +kernel
theorem d_J_range_7 : decode b_J_range 7 = .ok (.if_icmp .eq 10, 3) := by decide +kernel
theorem d_J_range_10 : decode b_J_range 10 = .ok (.aload_n 0, 1) := by decide +kernel
theorem d_J_range_11 : decode b_J_range 11 = .ok (.iload_n 1, 1) := by decide +kernel
theorem d_J_range_12 : decode b_J_range 12 = .ok (.iload_n 2, 1) := by decide +kernel
theorem d_J_range_13 : decode b_J_range 13 = .ok (.invokestatic 339, 3) := by decide +kernel
theorem d_J_range_16 : decode b_J_range 16 = .ok (.areturn, 1) := by decide +kernel
theorem wj_0 : Cond.methodLink R_J 343 y_J_checkLength ∈ WB := wbm (i := 350) (by decide +kernel) rfl
theorem wj_1 : Cond.static y_J_checkLength ∈ WB := wbm (i := 351) (by decide +kernel) rfl
theorem wj_2 : Cond.initialized R_J ∈ WB := wbm (i := 59) (by decide +kernel) rfl
theorem wj_3 : Cond.code y_J_checkLength b_J_checkLength 2 none ∈ WB := wbm (i := 352) (by decide +kernel) rfl
theorem wj_4 : Cond.arrayClass .byte ∈ WB := wbm (i := 95) (by decide +kernel) rfl
theorem wj_5 : Cond.methodLink R_J 304 Lib.Math.min.name ∈ WB := wbm (i := 462) (by decide +kernel) rfl
theorem wj_6 : Cond.static Lib.Math.min.name ∈ WB := wbm (i := 463) (by decide +kernel) rfl
theorem wj_7 : Cond.initialized "java/lang/Math" ∈ WB := wbm (i := 70) (by decide +kernel) rfl
theorem wj_8 : Cond.code Lib.Math.min.name Lib.Math.min.code 2 (some .int) ∈ WB := wbm (i := 464) (by decide +kernel) rfl
theorem wj_9 : Cond.methodLink R_J 150 arraycopyName ∈ WB := wbm (i := 465) (by decide +kernel) rfl
theorem wj_10 : Cond.native arraycopyName ∈ WB := wbm (i := 467) (by decide +kernel) rfl
theorem wj_11 : Cond.static arraycopyName ∈ WB := wbm (i := 466) (by decide +kernel) rfl
theorem wj_12 : Cond.initialized "java/lang/System" ∈ WB := wbm (i := 71) (by decide +kernel) rfl
theorem wj_13 : Cond.methodLink R_J 339 y_J_rangeByte ∈ WB := wbm (i := 347) (by decide +kernel) rfl
theorem wj_14 : Cond.static y_J_rangeByte ∈ WB := wbm (i := 348) (by decide +kernel) rfl
theorem wj_15 : Cond.code y_J_rangeByte b_J_rangeByte 5 (some (.array .byte)) ∈ WB := wbm (i := 349) (by decide +kernel) rfl
theorem wj_16 : Cond.methodLink R_L 19 y_J_range ∈ WB := wbm (i := 344) (by decide +kernel) rfl
theorem wj_17 : Cond.static y_J_range ∈ WB := wbm (i := 345) (by decide +kernel) rfl
theorem wj_18 : Cond.code y_J_range b_J_range 3 (some (.array .byte)) ∈ WB := wbm (i := 346) (by decide +kernel) rfl
/-- byte arrays are of one kind -/
theorem one_byte {D : va_G} {cl : List vw_C} {tys : List (ClassId × FieldType)} {s : State} (hK : va_K D cl tys s) (i j : Nat) {c1 c2 : ClassId} (h1 : tys[i]? = some (c1, .byte)) (h2 : tys[j]? = some (c2, .byte)) : c1 = c2 := by
  have e1 : s.vm.findClass ("[" ++ FieldType.byte.toString) = some c1 := (hK.2 i _ h1).2
  have e2 : s.vm.findClass ("[" ++ FieldType.byte.toString) = some c2 := (hK.2 j _ h2).2
  exact Option.some.inj (e1.symm.trans e2)
set_option maxHeartbeats 4000000 in
set_option maxRecDepth 100000 in
theorem c_J_checkLength (l : Launch) (dC : Nat → ClassId) (dI : Nat → Nat → Nat) (sz : Nat) (p0 p1 : Int32) (hge : p0 ≤ p1) : Met l y_J_checkLength (w_J_checkLength) ({ frames := 0, cells := 0, slots := 0, locals := 0 }) (va_Pc [.int p0, .int p1] (fun U => U.heap.size = sz ∧ va_P (dC, dI) vwCl [] U.heap ∧ va_K (dC, dI) vwCl [] U ∧ va_D (fun _ => True) [] ∧ NW U)) (va_Qv (fun (_ : Unit) => True) (fun _ t => va_P (dC, dI) vwCl [] t.heap ∧ va_K (dC, dI) vwCl [] t ∧ va_D (va_A [] sz) []) (va_A [] sz)) 0 0 (va_A [] sz) := by
  refine Met.ofW (cc := b_J_checkLength) (maxL := 2) (ret := none) (by decide) rfl ?_
  intro p e s m args below meth c s₁ B hml hv
  obtain ⟨rfl, hsz, hP, hK, hD0, hN⟩ := hv
  have hx := B.exec
  have hb := B.bytes
  have hr := B.returns
  have hlocks := B.notSynchronized
  subst hsz
  have hD := hD0.self (sz := s.heap.size)
  generalize hAe : va_A [] s.heap.size = A at hD ⊢
  have hS : va_S A s.heap s.heap [] := va_S.rf
  have hP : va_P (dC, dI) vwCl [] s.heap := hP
  have hl := lv_entry [.int p0, .int p1] (n := 2) (Nat.le_of_ble_eq_true rfl)
  rw [lg_entry_eq]
  generalize (lg_sl [.int p0, .int p1] ++ List.replicate (2 - (lg_sl [.int p0, .int p1]).length) Slot.unset).toArray = ls at hl ⊢
  have hl : lv_has ls 2 [(0, .int p0), (1, .int p1)] := hl
  refine lv_iload_n hx hb d_J_checkLength_0 rfl (lv_at hl 1 rfl) ?_
  refine lv_iload_n hx hb d_J_checkLength_1 rfl (lv_at hl 0 rfl) ?_
  refine lv_icmp_ge (tgt := 37) hx hb d_J_checkLength_2 (by decide) (fun _ => ?_) (fun q => absurd hge q)
  exact W.vret hx hb hr (fun t ht hW => ⟨⟨(), rfl, trivial, by rw [ht]; exact hP, va_K.moved hW.alike hK, hD⟩, hS.F ht⟩) hS.2.2 d_J_checkLength_37
/-- the letters that a copy holds -/
def cpB (lb : Nat → Int32) (b n : Nat) : Nat → Int32 := va_cpy lb (fun _ => 0) b 0 n
set_option maxHeartbeats 4000000 in
set_option maxRecDepth 100000 in
theorem c_J_rangeByte (l : Launch) (dC : Nat → ClassId) (dI : Nat → Nat → Nat) (aB : Nat) (cB : ClassId) (sz : Nat) (lb : Nat → Int32) (b n : Nat) (hbn : b + n ≤ 1024) (hn : n ≤ 63) (hfit : ∀ j, fits .byte (.int (lb j)) = true) : Met l y_J_rangeByte (w_J_rangeByte) ({ frames := 1, cells := 1, slots := 63, locals := 100 }) (va_Pc [.ref aB, .int (nI b), .int (nI (b + n))] (fun U => U.heap.size = sz ∧ va_P (dC, dI) vwCl [(aB, .inl (cB, 1024, .inl lb))] U.heap ∧ va_K (dC, dI) vwCl [(cB, .byte)] U ∧ va_D (fun _ => True) [(aB, .inl (cB, 1024, .inl lb))] ∧ NW U)) (va_Qr (fun (_ : Unit) => True) (fun _ q t => va_P (dC, dI) vwCl [(aB, .inl (cB, 1024, .inl lb)), (q, .inl (cB, n, .inl (cpB lb b n)))] t.heap ∧ va_K (dC, dI) vwCl [(cB, .byte)] t ∧ va_D (va_A [(aB, .inl (cB, 1024, .inl lb))] sz) [(aB, .inl (cB, 1024, .inl lb)), (q, .inl (cB, n, .inl (cpB lb b n)))]) (va_A [(aB, .inl (cB, 1024, .inl lb))] sz)) 1 63 (va_A [(aB, .inl (cB, 1024, .inl lb))] sz) := by
  refine Met.ofW (cc := b_J_rangeByte) (maxL := 5) (ret := some (.array .byte)) (by decide) rfl ?_
  intro p e s m args below meth c s₁ B hml hv
  obtain ⟨rfl, hsz, hP, hK, hD0, hN⟩ := hv
  have hx := B.exec
  have hb := B.bytes
  have hr := B.returns
  have hts : ∀ w ∈ WB, w.before _ s = true := fun w h => atoms_spec (ws := w_J_rangeByte) B.pre w (List.mem_cons_of_mem _ h)
  have hown : s.vm.findClass R_J = some m.cls := findClass_of_methodNamed B.named
  have hlocks := B.notSynchronized
  subst hsz
  have hD := hD0.self (sz := s.heap.size)
  generalize hAe : va_A [(aB, .inl (cB, 1024, .inl lb))] s.heap.size = A at hD ⊢
  have hA : ∀ q : Nat, s.heap.size ≤ q → A q := fun q h => by rw [← hAe]; exact Or.inr h
  have hS : va_S A s.heap s.heap [] := va_S.rf
  have hP : va_P (dC, dI) vwCl [(aB, .inl (cB, 1024, .inl lb))] s.heap := hP
  have hl := lv_entry [.ref aB, .int (nI b), .int (nI (b + n))] (n := 5) (Nat.le_of_ble_eq_true rfl)
  rw [lg_entry_eq]
  generalize (lg_sl [.ref aB, .int (nI b), .int (nI (b + n))] ++ List.replicate (5 - (lg_sl [.ref aB, .int (nI b), .int (nI (b + n))]).length) Slot.unset).toArray = ls at hl ⊢
  have hl : lv_has ls 5 [(0, .ref aB), (1, .int (nI b)), (2, .int (nI (b + n)))] := hl
  refine lv_iload_n hx hb d_J_rangeByte_0 rfl (lv_at hl 1 rfl) ?_
  refine lv_iload_n hx hb d_J_rangeByte_1 rfl (lv_at hl 2 rfl) ?_
  refine cr_v (va_runS (As := [.int (nI b), .int (nI (b + n))]) (rest := []) ⟨hx, hb, hml, hown, hts⟩ (c_J_checkLength l dC dI s.heap.size (nI b) (nI (b + n)) (nI_le (Nat.le_add_right _ _) (by omega))) (va_cwS 2 hts (gwS wj_0 wj_1 wj_2 wj_3) rfl rfl rfl (by decide +kernel) ⟨Nat.le_of_ble_eq_true rfl, Nat.le_of_ble_eq_true rfl⟩) (pr_S (hP.sub [] rfl) (hD.sub [] (by decide) rfl) hK hN [] rfl) rfl rfl hl.1 rfl (lv_room (Nat.le_of_ble_eq_true rfl)) d_J_rangeByte_2 ⟨Nat.zero_le _, Nat.zero_le _⟩) hP hD hS hA (in_of [] rfl) (fun H locs hw hP hS => ?_)
  refine lv_iload_n hx hb d_J_rangeByte_5 rfl (lv_at hl 2 rfl) ?_
  refine lv_iload_n hx hb d_J_rangeByte_6 rfl (lv_at hl 1 rfl) ?_
  refine lv_isub hx hb d_J_rangeByte_7 ?_
  rw [show nI (b + n) - nI b = nI n by rw [pk_sub (Nat.le_add_right _ _)]; congr 1; omega]
  refine lv_istore_n (lv' := [(3, .int (nI n)), (0, .ref aB), (1, .int (nI b)), (2, .int (nI (b + n)))]) hx hb d_J_rangeByte_8 rfl hl (by decide) rfl (fun ls hl => ?_)
  refine lv_iload_n hx hb d_J_rangeByte_9 rfl (lv_at hl 0 rfl) ?_
  refine va_newa (atype := .byte) (ty := .byte) (n := nI n) (N' := n) (a0 := (n, .inl (fun _ => 0))) hx hb (hts _ wj_4) rfl hK hP hD hS hA (fun _ => rfl) (nI_pos (by omega)) (nI_clamp (by omega)) (by show n * 1 ≤ 536870912; omega) (Nat.le_of_ble_eq_true rfl) (by show 0 + 0 + n ≤ 63; omega) d_J_rangeByte_10 (fun q cA H hK hP hD hS => ?_)
  have hce : cB = cA := one_byte hK 0 1 rfl rfl
  subst cA
  have hP : va_P (dC, dI) vwCl [(aB, .inl (cB, 1024, .inl lb)), (q, .inl (cB, n, .inl (fun _ => 0)))] H := hP
  have hD : va_D A [(aB, .inl (cB, 1024, .inl lb)), (q, .inl (cB, n, .inl (fun _ => 0)))] := hD
  have hK : va_K (dC, dI) vwCl [(cB, .byte), (cB, .byte)] s := hK
  refine W.widen (k := 1) (n := 63) (by omega) (by omega) ?_
  refine lv_astore (lv' := [(4, .ref q), (3, .int (nI n)), (0, .ref aB), (1, .int (nI b)), (2, .int (nI (b + n)))]) hx hb d_J_rangeByte_12 hl (by decide) rfl (fun ls hl => ?_)
  refine lv_aload_n hx hb d_J_rangeByte_14 rfl (lv_at hl 2 rfl) ?_
  refine lv_iload_n hx hb d_J_rangeByte_15 rfl (lv_at hl 3 rfl) ?_
  refine lv_aload hx hb d_J_rangeByte_16 (lv_at hl 0 rfl) ?_
  refine lv_iconst (v := 0) hx hb d_J_rangeByte_18 (by decide) ?_
  refine lv_aload_n hx hb d_J_rangeByte_19 rfl (lv_at hl 2 rfl) ?_
  refine va_alen (v := nI 1024) hx hb hK hP 0 0 rfl rfl rfl d_J_rangeByte_20 ?_
  refine lv_iload_n hx hb d_J_rangeByte_21 rfl (lv_at hl 3 rfl) ?_
  refine lv_isub hx hb d_J_rangeByte_22 ?_
  rw [show nI 1024 - nI b = nI (1024 - b) from pk_sub (by omega)]
  refine lv_iload_n hx hb d_J_rangeByte_23 rfl (lv_at hl 1 rfl) ?_
  refine va_mmin hx hb (hml.trans hl.1.symm) hown (hts _ wj_5) (hts _ wj_6) (hts _ wj_7) (hts _ wj_8) (Nat.le_of_ble_eq_true rfl) (Nat.le_of_ble_eq_true rfl) (Nat.le_of_ble_eq_true rfl) (Nat.le_of_ble_eq_true rfl) d_J_rangeByte_24 ?_
  rw [show (if nI n < nI (1024 - b) then nI n else nI (1024 - b)) = nI n by
    by_cases hc : nI n < nI (1024 - b)
    · rw [if_pos hc]
    · rw [if_neg hc]
      have h2 : ¬ n < 1024 - b := fun z => hc (nI_lt z (by omega))
      congr 1
      omega]
  refine va_copyi hx hb (hml.trans hl.1.symm) hown (hts _ wj_9) (hts _ wj_10) (hts _ wj_11) (hts _ wj_12) hK hP hD hS 0 1 0 1 rfl rfl rfl rfl rfl (nI_pos (by omega)) (by decide) (nI_pos (by omega)) (by rw [nI_clamp (by omega), nI_clamp (by omega)]; omega) (by rw [nI_clamp (by omega)]; show 0 + n ≤ n; omega) (fun i _ => hfit _) (Nat.le_of_ble_eq_true rfl) (by decide) d_J_rangeByte_27 (fun H locs hP hD hS => ?_)
  rw [nI_clamp (n := b) (by omega), nI_clamp (n := n) (by omega)] at hP hD
  have hP : va_P (dC, dI) vwCl [(aB, .inl (cB, 1024, .inl lb)), (q, .inl (cB, n, .inl (cpB lb b n)))] H := hP
  have hD : va_D A [(aB, .inl (cB, 1024, .inl lb)), (q, .inl (cB, n, .inl (cpB lb b n)))] := hD
  refine lv_aload hx hb d_J_rangeByte_30 (lv_at hl 0 rfl) ?_
  have hK9 := hK.sub (tys' := [(cB, .byte)]) [0] rfl
  exact W.aret (v := .ref q) hx hb hr (Or.inr ⟨_, rfl⟩) (Or.inr ⟨_, rfl⟩) (fun t ht hW => ⟨⟨(), q, rfl, trivial, by rw [ht]; exact hP, va_K.moved hW.alike hK9, hD⟩, hS.F ht⟩) hS.2.2 d_J_rangeByte_32
section CFR
variable {p : Program} {l : Launch} {e : Env} {R : Room} {s : State} {m : MethodId} {args : Array Value} {below : List Frame} {meth : Method} {c : Code} {H : Heap} {locs : List Loc} {cells slots : Nat} {Q : State → Prop} {pc mc ms : Nat} {ls : Array Slot} {rest st0 : List Value} {a : Array Value} {A0 : Nat → Prop} {H0 : Heap} {D : va_G} {cl : List vw_C} {tys : List (ClassId × FieldType)} {ws wc wr X pl : va_W} {w1 : Nat → va_W} {post : Unit → Prop}
/-- a call that answers a new cell -/
theorem cf_r (hr : va_Run p l e R s m args below meth c H locs cells slots mc ms (F0 m pc ls st0) rest (va_Qr post (fun _ q t => va_P D cl (w1 q) t.heap ∧ va_K D cl tys t ∧ va_D (va_A wc H.size) (w1 q)) (va_A wc H.size) a) (va_A wc H.size)) (hP : va_P D cl ws H) (hD : va_D A0 ws) (hS : va_S A0 H0 H locs) (hA : ∀ q, H0.size ≤ q → A0 q) (isC isR : List Nat) (hC : isC.map (fun i => ws[i]?) = wc.map some) (hR : isR.map (fun i => ws[i]?) = wr.map some) (hn : va_nd isR = true) (hdis : ∀ i ∈ isR, i ∉ isC)
    (kk : ∀ (q : Nat) (H1 : Heap) (locs1 : List Loc), va_P D cl (wr ++ w1 q) H1 → va_D A0 (wr ++ w1 q) → va_S A0 H0 H1 locs1 → W p l e R s m args below meth c H1 locs1 (cells + mc) (slots + ms) Q (F0 m (pc + 3) ls (.ref q :: rest))) : W p l e R s m args below meth c H locs cells slots Q (F0 m pc ls st0) := by
  have hFc := va_free (wc := wc) hD hS hA isC hC
  refine va_callr hr hS (fun q _ h => hFc q h) hFc (fun u q t H1 locs1 ht hvm hw hB hz1 hk1 hS1 => ?_)
  obtain ⟨hP1, hK1, hD1⟩ := hB
  rw [ht] at hP1
  obtain ⟨hP2, hD2⟩ := va_join hP hD isC isR hC hR hn hdis hk1 hFc hP1 hD1
  exact kk q H1 locs1 hP2 hD2 hS1
theorem cf_rq (hr : va_Run p l e R s m args below meth c H locs cells slots mc ms (F0 m pc ls st0) rest (va_Qr post (fun _ q t => va_P D cl (w1 q) t.heap ∧ va_K D cl tys t ∧ va_D (va_A wc H.size) (w1 q)) (va_A wc H.size) a) (va_A wc H.size)) (hP : va_P D cl (X ++ pl) H) (hD : va_D A0 (X ++ pl)) (hS : va_S A0 H0 H locs) (hA : ∀ q, H0.size ≤ q → A0 q) (isC isR : List Nat) (hC : isC.map (fun i => X[i]?) = wc.map some) (hC2 : isC.map (fun i => (X ++ pl)[i]?) = wc.map some) (hR : isR.map (fun i => X[i]?) = wr.map some) (hn : va_nd isR = true) (hdis : ∀ i ∈ isR, i ∉ isC)
    (kk : ∀ (q : Nat) (H1 : Heap) (locs1 : List Loc), va_P D cl ((wr ++ w1 q) ++ pl) H1 → va_D A0 ((wr ++ w1 q) ++ pl) → va_S A0 H0 H1 locs1 → W p l e R s m args below meth c H1 locs1 (cells + mc) (slots + ms) Q (F0 m (pc + 3) ls (.ref q :: rest))) : W p l e R s m args below meth c H locs cells slots Q (F0 m pc ls st0) := by
  have hFc := in_free hD hS hA (in_of isC hC2)
  refine va_callr hr hS (fun q _ h => hFc q h) hFc (fun u q t H1 locs1 ht hvm hw hB hz1 hk1 hS1 => ?_)
  obtain ⟨hP1, hK1, hD1⟩ := hB
  rw [ht] at hP1
  obtain ⟨hP2, hD2⟩ := va_joinQ hP hD isC isR hC hR hn hdis hk1 hFc hP1 hD1
  exact kk q H1 locs1 hP2 hD2 hS1
end CFR
set_option maxHeartbeats 4000000 in
set_option maxRecDepth 100000 in
theorem c_J_range (l : Launch) (dC : Nat → ClassId) (dI : Nat → Nat → Nat) (aB : Nat) (cB : ClassId) (sz : Nat) (lb : Nat → Int32) (b n : Nat) (hbn : b + n ≤ 1024) (hn : n ≤ 63) (hfit : ∀ j, fits .byte (.int (lb j)) = true) : Met l y_J_range (w_J_range) ({ frames := 2, cells := 1, slots := 63, locals := 124 }) (va_Pc [.ref aB, .int (nI b), .int (nI (b + n))] (fun U => U.heap.size = sz ∧ va_P (dC, dI) vwCl [(aB, .inl (cB, 1024, .inl lb))] U.heap ∧ va_K (dC, dI) vwCl [(cB, .byte)] U ∧ va_D (fun _ => True) [(aB, .inl (cB, 1024, .inl lb))] ∧ NW U)) (va_Qr (fun (_ : Unit) => True) (fun _ q t => va_P (dC, dI) vwCl [(aB, .inl (cB, 1024, .inl lb)), (q, .inl (cB, n, .inl (cpB lb b n)))] t.heap ∧ va_K (dC, dI) vwCl [(cB, .byte)] t ∧ va_D (va_A [(aB, .inl (cB, 1024, .inl lb))] sz) [(aB, .inl (cB, 1024, .inl lb)), (q, .inl (cB, n, .inl (cpB lb b n)))]) (va_A [(aB, .inl (cB, 1024, .inl lb))] sz)) 1 63 (va_A [(aB, .inl (cB, 1024, .inl lb))] sz) := by
  refine Met.ofW (cc := b_J_range) (maxL := 3) (ret := some (.array .byte)) (by decide) rfl ?_
  intro p e s m args below meth c s₁ B hml hv
  obtain ⟨rfl, hsz, hP, hK, hD0, hN⟩ := hv
  have hx := B.exec
  have hb := B.bytes
  have hr := B.returns
  have hts : ∀ w ∈ WB, w.before _ s = true := fun w h => atoms_spec (ws := w_J_range) B.pre w (List.mem_cons_of_mem _ h)
  have hown : s.vm.findClass R_J = some m.cls := findClass_of_methodNamed B.named
  have hlocks := B.notSynchronized
  subst hsz
  have hD := hD0.self (sz := s.heap.size)
  generalize hAe : va_A [(aB, .inl (cB, 1024, .inl lb))] s.heap.size = A at hD ⊢
  have hA : ∀ q : Nat, s.heap.size ≤ q → A q := fun q h => by rw [← hAe]; exact Or.inr h
  have hS : va_S A s.heap s.heap [] := va_S.rf
  have hP : va_P (dC, dI) vwCl [(aB, .inl (cB, 1024, .inl lb))] s.heap := hP
  have hl := lv_entry [.ref aB, .int (nI b), .int (nI (b + n))] (n := 3) (Nat.le_of_ble_eq_true rfl)
  rw [lg_entry_eq]
  generalize (lg_sl [.ref aB, .int (nI b), .int (nI (b + n))] ++ List.replicate (3 - (lg_sl [.ref aB, .int (nI b), .int (nI (b + n))]).length) Slot.unset).toArray = ls at hl ⊢
  have hl : lv_has ls 3 [(0, .ref aB), (1, .int (nI b)), (2, .int (nI (b + n)))] := hl
  have tail : W p l e (headSpec (w_J_range) ({ frames := 2, cells := 1, slots := 63, locals := 124 })).room s m [.ref aB, .int (nI b), .int (nI (b + n))].toArray below meth c s.heap [] 0 0 (MQ below (va_Qr (fun (_ : Unit) => True) (fun _ q t => va_P (dC, dI) vwCl [(aB, .inl (cB, 1024, .inl lb)), (q, .inl (cB, n, .inl (cpB lb b n)))] t.heap ∧ va_K (dC, dI) vwCl [(cB, .byte)] t ∧ va_D A [(aB, .inl (cB, 1024, .inl lb)), (q, .inl (cB, n, .inl (cpB lb b n)))]) A) [.ref aB, .int (nI b), .int (nI (b + n))].toArray s 1 63 A) (F0 m 10 ls []) := by
    refine lv_aload_n hx hb d_J_range_10 rfl (lv_at hl 0 rfl) ?_
    refine lv_iload_n hx hb d_J_range_11 rfl (lv_at hl 1 rfl) ?_
    refine lv_iload_n hx hb d_J_range_12 rfl (lv_at hl 2 rfl) ?_
    refine cf_r (wr := []) (w1 := fun q => [(aB, .inl (cB, 1024, .inl lb)), (q, .inl (cB, n, .inl (cpB lb b n)))]) (va_runS (As := [.ref aB, .int (nI b), .int (nI (b + n))]) (rest := []) ⟨hx, hb, hml, hown, hts⟩ (c_J_rangeByte l dC dI aB cB s.heap.size lb b n hbn hn hfit) (va_cwS 3 hts (gwS wj_13 wj_14 wj_2 wj_15) rfl rfl rfl (by decide +kernel) ⟨Nat.le_of_ble_eq_true rfl, Nat.le_of_ble_eq_true rfl⟩) (pr_S (hP.sub [0] rfl) (hD.sub [0] (by decide) rfl) hK hN [0] rfl) rfl rfl hl.1 rfl (lv_room (Nat.le_of_ble_eq_true rfl)) d_J_range_13 ⟨Nat.le_of_ble_eq_true rfl, Nat.le_of_ble_eq_true rfl⟩) hP hD hS hA [0] [] rfl rfl (by decide) (by decide) (fun q H locs hP hD hS => ?_)
    have hP : va_P (dC, dI) vwCl [(aB, .inl (cB, 1024, .inl lb)), (q, .inl (cB, n, .inl (cpB lb b n)))] H := hP
    have hD : va_D A [(aB, .inl (cB, 1024, .inl lb)), (q, .inl (cB, n, .inl (cpB lb b n)))] := hD
    refine W.widen (k := 1) (n := 63) (by omega) (by omega) ?_
    exact W.aret (v := .ref q) hx hb hr (Or.inr ⟨_, rfl⟩) (Or.inr ⟨_, rfl⟩) (fun t ht hW => ⟨⟨(), q, rfl, trivial, by rw [ht]; exact hP, va_K.moved hW.alike hK, hD⟩, hS.F ht⟩) hS.2.2 d_J_range_16
  refine lv_iload_n hx hb d_J_range_0 rfl (lv_at hl 1 rfl) ?_
  refine lv_if_ne (tgt := 10) hx hb d_J_range_1 (by decide) (fun _ => tail) (fun q0 => ?_)
  refine lv_iload_n hx hb d_J_range_4 rfl (lv_at hl 2 rfl) ?_
  refine lv_aload_n hx hb d_J_range_5 rfl (lv_at hl 0 rfl) ?_
  refine va_alen (v := nI 1024) hx hb hK hP 0 0 rfl rfl rfl d_J_range_6 ?_
  refine lv_icmp_eq (tgt := 17) hx hb d_J_range_7 (by decide) (fun q1 => ?_) (fun _ => tail)
  have h0 : b = 0 := (nI_eq (by omega) (by omega)).mp (q0.trans nI_0.symm)
  have h1 : b + n = 1024 := (nI_eq (by omega) (by omega)).mp q1
  exact absurd h1 (by omega)

abbrev w_L_copyX : List Cond := .code y_L_copy b_L_copy 3 (some (.array .byte)) :: WB
set_option maxHeartbeats 4000000 in
set_option maxRecDepth 100000 in
theorem c_L_copy (l : Launch) (dC : Nat → ClassId) (dI : Nat → Nat → Nat) (aL aB : Nat) (cB : ClassId) (sz : Nat) (ln : Int32) (lb : Nat → Int32) (b n : Nat) (hbn : b + n ≤ 1024) (hn : n ≤ 63) (hfit : ∀ j, fits .byte (.int (lb j)) = true) (hle : nI (b + n) ≤ ln) : Met l y_L_copy (w_L_copyX) ({ frames := 3, cells := 1, slots := 63, locals := 146 }) (va_Pc [.ref aL, .int (nI b), .int (nI (b + n))] (fun U => U.heap.size = sz ∧ va_P (dC, dI) vwCl [(aL, .inr (1, [.ref aB, .int ln])), (aB, .inl (cB, 1024, .inl lb))] U.heap ∧ va_K (dC, dI) vwCl [(cB, .byte)] U ∧ va_D (fun _ => True) [(aL, .inr (1, [.ref aB, .int ln])), (aB, .inl (cB, 1024, .inl lb))] ∧ NW U)) (va_Qr (fun (_ : Unit) => True) (fun _ q t => va_P (dC, dI) vwCl [(aL, .inr (1, [.ref aB, .int ln])), (aB, .inl (cB, 1024, .inl lb)), (q, .inl (cB, n, .inl (cpB lb b n)))] t.heap ∧ va_K (dC, dI) vwCl [(cB, .byte)] t ∧ va_D (va_A [(aL, .inr (1, [.ref aB, .int ln])), (aB, .inl (cB, 1024, .inl lb))] sz) [(aL, .inr (1, [.ref aB, .int ln])), (aB, .inl (cB, 1024, .inl lb)), (q, .inl (cB, n, .inl (cpB lb b n)))]) (va_A [(aL, .inr (1, [.ref aB, .int ln])), (aB, .inl (cB, 1024, .inl lb))] sz)) 1 63 (va_A [(aL, .inr (1, [.ref aB, .int ln])), (aB, .inl (cB, 1024, .inl lb))] sz) := by
  refine Met.ofW (cc := b_L_copy) (maxL := 3) (ret := (some (.array .byte))) (by decide) rfl ?_
  intro p e s m args below meth c s₁ B hml hv
  obtain ⟨rfl, hsz, hP, hK, hD0, hN⟩ := hv
  have hx := B.exec
  have hb := B.bytes
  have hr := B.returns
  have hts : ∀ w ∈ WB, w.before _ s = true := fun w h => atoms_spec (ws := w_L_copyX) B.pre w (List.mem_cons_of_mem _ h)
  have hown : s.vm.findClass R_L = some m.cls := findClass_of_methodNamed B.named
  have hlocks := B.notSynchronized
  subst hsz
  have hD := hD0.self (sz := s.heap.size)
  generalize hAe : va_A [(aL, .inr (1, [.ref aB, .int ln])), (aB, .inl (cB, 1024, .inl lb))] s.heap.size = A at hD ⊢
  have hA : ∀ q : Nat, s.heap.size ≤ q → A q := fun q h => by rw [← hAe]; exact Or.inr h
  have hS : va_S A s.heap s.heap [] := va_S.rf
  have hP : va_P (dC, dI) vwCl [(aL, .inr (1, [.ref aB, .int ln])), (aB, .inl (cB, 1024, .inl lb))] s.heap := hP
  have hl := lv_entry [.ref aL, .int (nI b), .int (nI (b + n))] (n := 3) (Nat.le_of_ble_eq_true rfl)
  rw [lg_entry_eq]
  generalize (lg_sl [.ref aL, .int (nI b), .int (nI (b + n))] ++ List.replicate (3 - (lg_sl [.ref aL, .int (nI b), .int (nI (b + n))]).length) Slot.unset).toArray = ls at hl ⊢
  have hl : lv_has ls 3 [(0, .ref aL), (1, .int (nI b)), (2, .int (nI (b + n)))] := hl
  refine lv_iload_n hx hb d_L_copy_0 rfl (lv_at hl 1 rfl) ?_
  refine lv_if_lt (tgt := 17) hx hb d_L_copy_1 (by decide) (fun q => absurd q (nI_pos (by omega))) (fun _ => ?_)
  refine lv_iload_n hx hb d_L_copy_4 rfl (lv_at hl 1 rfl) ?_
  refine lv_iload_n hx hb d_L_copy_5 rfl (lv_at hl 2 rfl) ?_
  refine lv_icmp_gt (tgt := 17) hx hb d_L_copy_6 (by decide) (fun q => absurd q (nI_nlt (Nat.le_add_right _ _) (by omega))) (fun _ => ?_)
  refine lv_iload_n hx hb d_L_copy_9 rfl (lv_at hl 2 rfl) ?_
  refine lv_aload_n hx hb d_L_copy_10 rfl (lv_at hl 0 rfl) ?_
  refine va_get (D := (dC, dI)) (ci := 1) (v := .int ln) (C := R_L) (T := F_L) (N := 2) hx hb hts i_L hown hK hP 0 rfl rfl 1 (by decide) (hts _ wb_0) (fun _ h9 => h9) rfl d_L_copy_11 ?_
  refine lv_icmp_le (tgt := 21) hx hb d_L_copy_14 (by decide) (fun _ => ?_) (fun q => absurd hle q)
  refine lv_aload_n hx hb d_L_copy_21 rfl (lv_at hl 0 rfl) ?_
  refine va_get (D := (dC, dI)) (ci := 1) (v := .ref aB) (C := R_L) (T := F_L) (N := 2) hx hb hts i_L hown hK hP 0 rfl rfl 0 (by decide) (hts _ wb_1) (fun _ h9 => h9) rfl d_L_copy_22 ?_
  refine lv_iload_n hx hb d_L_copy_25 rfl (lv_at hl 1 rfl) ?_
  refine lv_iload_n hx hb d_L_copy_26 rfl (lv_at hl 2 rfl) ?_
  refine cf_r (wr := [(aL, .inr (1, [.ref aB, .int ln]))]) (w1 := fun q => [(aB, .inl (cB, 1024, .inl lb)), (q, .inl (cB, n, .inl (cpB lb b n)))]) (va_runS (As := [.ref aB, .int (nI b), .int (nI (b + n))]) (rest := []) ⟨hx, hb, hml, hown, hts⟩ (c_J_range l dC dI aB cB s.heap.size lb b n hbn hn hfit) (va_cwS 3 hts (gwS wj_16 wj_17 wj_2 wj_18) rfl rfl rfl (by decide +kernel) ⟨Nat.le_of_ble_eq_true rfl, Nat.le_of_ble_eq_true rfl⟩) (pr_S (hP.sub [1] rfl) (hD.sub [1] (by decide) rfl) hK hN [0] rfl) rfl rfl hl.1 rfl (lv_room (Nat.le_of_ble_eq_true rfl)) d_L_copy_27 ⟨Nat.le_of_ble_eq_true rfl, Nat.le_of_ble_eq_true rfl⟩) hP hD hS hA [1] [0] rfl rfl (by decide) (by decide) (fun q H locs hP hD hS => ?_)
  have hP : va_P (dC, dI) vwCl [(aL, .inr (1, [.ref aB, .int ln])), (aB, .inl (cB, 1024, .inl lb)), (q, .inl (cB, n, .inl (cpB lb b n)))] H := hP
  have hD : va_D A [(aL, .inr (1, [.ref aB, .int ln])), (aB, .inl (cB, 1024, .inl lb)), (q, .inl (cB, n, .inl (cpB lb b n)))] := hD
  refine W.widen (k := 1) (n := 63) (by omega) (by omega) ?_
  exact W.aret (v := .ref q) hx hb hr (Or.inr ⟨_, rfl⟩) (Or.inr ⟨_, rfl⟩) (fun t ht hW => ⟨⟨(), q, rfl, trivial, by rw [ht]; exact hP, va_K.moved hW.alike hK, hD⟩, hS.F ht⟩) hS.2.2 d_L_copy_30

set_option maxHeartbeats 4000000 in
set_option maxRecDepth 100000 in
theorem c_N_init (l : Launch) (dC : Nat → ClassId) (dI : Nat → Nat → Nat) (aZ q : Nat) (sz : Nat) (p1 : Int32) (p2 : Int64) (p3 : Int32) (hz : narrow .boolean (.int p1) = .int p1) : Met l y_N_init (w_N_init) ({ frames := 1, cells := 0, slots := 0, locals := 12 }) (va_Pc [.ref aZ, .ref q, .int p1, .long p2, .int p3] (fun U => U.heap.size = sz ∧ va_P (dC, dI) vwCl [(aZ, .inr (3, [.null, .int 0, .long 0, .int 0]))] U.heap ∧ va_K (dC, dI) vwCl [] U ∧ va_D (fun _ => True) [(aZ, .inr (3, [.null, .int 0, .long 0, .int 0]))] ∧ NW U)) (va_Qv (fun (_ : Unit) => True) (fun _ t => va_P (dC, dI) vwCl [(aZ, .inr (3, [.ref q, .int p1, .long p2, .int p3]))] t.heap ∧ va_K (dC, dI) vwCl [] t ∧ va_D (va_A [(aZ, .inr (3, [.null, .int 0, .long 0, .int 0]))] sz) [(aZ, .inr (3, [.ref q, .int p1, .long p2, .int p3]))]) (va_A [(aZ, .inr (3, [.null, .int 0, .long 0, .int 0]))] sz)) 0 0 (va_A [(aZ, .inr (3, [.null, .int 0, .long 0, .int 0]))] sz) := by
  refine Met.ofW (cc := b_N_init) (maxL := 6) (ret := none) (by decide) rfl ?_
  intro p e s m args below meth c s₁ B hml hv
  obtain ⟨rfl, hsz, hP, hK, hD0, hN⟩ := hv
  have hx := B.exec
  have hb := B.bytes
  have hr := B.returns
  have hts : ∀ w ∈ WB, w.before _ s = true := fun w h => atoms_spec (ws := w_N_init) B.pre w (List.mem_cons_of_mem _ h)
  have hown : s.vm.findClass R_N = some m.cls := findClass_of_methodNamed B.named
  have hlocks := B.notSynchronized
  have hin : meth.name = "<init>" := (name_of_methodNamed B.named B.method).1
  subst hsz
  have hD := hD0.self (sz := s.heap.size)
  generalize hAe : va_A [(aZ, .inr (3, [.null, .int 0, .long 0, .int 0]))] s.heap.size = A at hD ⊢
  have hA : ∀ q : Nat, s.heap.size ≤ q → A q := fun q h => by rw [← hAe]; exact Or.inr h
  have hS : va_S A s.heap s.heap [] := va_S.rf
  have hP : va_P (dC, dI) vwCl [(aZ, .inr (3, [.null, .int 0, .long 0, .int 0]))] s.heap := hP
  have hl := lv_entry [.ref aZ, .ref q, .int p1, .long p2, .int p3] (n := 6) (Nat.le_of_ble_eq_true rfl)
  rw [lg_entry_eq]
  generalize (lg_sl [.ref aZ, .ref q, .int p1, .long p2, .int p3] ++ List.replicate (6 - (lg_sl [.ref aZ, .ref q, .int p1, .long p2, .int p3]).length) Slot.unset).toArray = ls at hl ⊢
  have hl : lv_has ls 6 [(0, .ref aZ), (1, .ref q), (2, .int p1), (3, .long p2), (5, .int p3)] := hl
  refine lv_aload_n hx hb d_N_init_0 rfl (lv_at hl 0 rfl) ?_
  refine W.objInit hx hb hown (hts _ wb_366) (hts _ wb_367) (hts _ wb_368) rfl (by rw [hml]; exact hl.1) rfl d_N_init_1 (Nat.le_of_ble_eq_true rfl) (Nat.le_of_ble_eq_true rfl) ?_
  refine W.eq (g2 := F0 m 4 ls []) rfl ?_
  refine lv_aload_n hx hb d_N_init_4 rfl (lv_at hl 0 rfl) ?_
  refine lv_aload_n hx hb d_N_init_5 rfl (lv_at hl 1 rfl) ?_
  refine va_putF (D := (dC, dI)) (ci := 3) (v := .ref q) (ty := (.array .byte)) (C := R_N) (T := F_N) (N := 4) hx hb hts i_N ft_N tk_N n_N hown hK hP hD hS 0 rfl rfl 0 (by decide) (hts _ wb_369) (fun _ h9 => h9) rfl hin rfl (by decide +kernel) rfl rfl (Nat.le_of_ble_eq_true rfl) d_N_init_6 (fun H locs hP hD hS => ?_)
  have hP : va_P (dC, dI) vwCl [(aZ, .inr (3, [.ref q, .int 0, .long 0, .int 0]))] H := hP
  have hD : va_D A [(aZ, .inr (3, [.ref q, .int 0, .long 0, .int 0]))] := hD
  refine lv_aload_n hx hb d_N_init_9 rfl (lv_at hl 0 rfl) ?_
  refine lv_iload_n hx hb d_N_init_10 rfl (lv_at hl 2 rfl) ?_
  refine va_putF (D := (dC, dI)) (ci := 3) (v := .int p1) (ty := .boolean) (C := R_N) (T := F_N) (N := 4) hx hb hts i_N ft_N tk_N n_N hown hK hP hD hS 0 rfl rfl 1 (by decide) (hts _ wb_370) (fun _ h9 => h9) rfl hin rfl (by decide +kernel) hz (fit_b hz) (Nat.le_of_ble_eq_true rfl) d_N_init_11 (fun H locs hP hD hS => ?_)
  have hP : va_P (dC, dI) vwCl [(aZ, .inr (3, [.ref q, .int p1, .long 0, .int 0]))] H := hP
  have hD : va_D A [(aZ, .inr (3, [.ref q, .int p1, .long 0, .int 0]))] := hD
  refine lv_aload_n hx hb d_N_init_14 rfl (lv_at hl 0 rfl) ?_
  refine lv_lload_n hx hb d_N_init_15 rfl (lv_at hl 3 rfl) ?_
  refine va_putF (D := (dC, dI)) (ci := 3) (v := .long p2) (ty := .long) (C := R_N) (T := F_N) (N := 4) hx hb hts i_N ft_N tk_N n_N hown hK hP hD hS 0 rfl rfl 2 (by decide) (hts _ wb_371) (fun _ h9 => h9) rfl hin rfl (by decide +kernel) rfl rfl (Nat.le_of_ble_eq_true rfl) d_N_init_16 (fun H locs hP hD hS => ?_)
  have hP : va_P (dC, dI) vwCl [(aZ, .inr (3, [.ref q, .int p1, .long p2, .int 0]))] H := hP
  have hD : va_D A [(aZ, .inr (3, [.ref q, .int p1, .long p2, .int 0]))] := hD
  refine lv_aload_n hx hb d_N_init_19 rfl (lv_at hl 0 rfl) ?_
  refine lv_iload hx hb d_N_init_20 (lv_at hl 4 rfl) ?_
  refine va_putF (D := (dC, dI)) (ci := 3) (v := .int p3) (ty := .int) (C := R_N) (T := F_N) (N := 4) hx hb hts i_N ft_N tk_N n_N hown hK hP hD hS 0 rfl rfl 3 (by decide) (hts _ wb_372) (fun _ h9 => h9) rfl hin rfl (by decide +kernel) rfl rfl (Nat.le_of_ble_eq_true rfl) d_N_init_22 (fun H locs hP hD hS => ?_)
  have hP : va_P (dC, dI) vwCl [(aZ, .inr (3, [.ref q, .int p1, .long p2, .int p3]))] H := hP
  have hD : va_D A [(aZ, .inr (3, [.ref q, .int p1, .long p2, .int p3]))] := hD
  exact W.vret hx hb hr (fun t ht hW => ⟨⟨(), rfl, trivial, by rw [ht]; exact hP, va_K.moved hW.alike hK, hD⟩, hS.F ht⟩) hS.2.2 d_N_init_25
