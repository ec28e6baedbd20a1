theorem d_X_isOperand_0 : decode b_X_isOperand 0 = .ok (.aload_n 1, 1) := by decide +kernel
theorem d_X_isOperand_1 : decode b_X_isOperand 1 = .ok (.iload_n 2, 1) := by decide +kernel
theorem d_X_isOperand_2 : decode b_X_isOperand 2 = .ok (.invokevirtual 71, 3) := by decide +kernel
theorem d_X_isOperand_5 : decode b_X_isOperand 5 = .ok (.istore_n 3, 1) := by decide +kernel
theorem d_X_isOperand_6 : decode b_X_isOperand 6 = .ok (.iload_n 3, 1) := by decide +kernel
theorem d_X_isOperand_7 : decode b_X_isOperand 7 = .ok (.iconst 1, 1) := by decide +kernel
theorem d_X_isOperand_8 : decode b_X_isOperand 8 = .ok (.if_icmp .ne 29, 3) := by decide +kernel
theorem d_X_isOperand_11 : decode b_X_isOperand 11 = .ok (.aload_n 0, 1) := by decide +kernel
theorem d_X_isOperand_12 : decode b_X_isOperand 12 = .ok (.iload_n 2, 1) := by decide +kernel
theorem d_X_isOperand_13 : decode b_X_isOperand 13 = .ok (.invokevirtual 101, 3) := by decide +kernel
theorem d_X_isOperand_16 : decode b_X_isOperand 16 = .ok (.astore 4, 2) := by decide +kernel
theorem d_X_isOperand_18 : decode b_X_isOperand 18 = .ok (.aload 4, 2) := by decide +kernel
theorem d_X_isOperand_20 : decode b_X_isOperand 20 = .ok (.ifnull 11, 3) := by decide +kernel
theorem d_X_isOperand_23 : decode b_X_isOperand 23 = .ok (.aload 4, 2) := by decide +kernel
theorem d_X_isOperand_25 : decode b_X_isOperand 25 = .ok (.getfield 105, 3) := by decide +kernel
theorem d_X_isOperand_28 : decode b_X_isOperand 28 = .ok (.ifCond .ne 7, 3) := by decide +kernel
theorem d_X_isOperand_31 : decode b_X_isOperand 31 = .ok (.iconst 1, 1) := by decide +kernel
theorem d_X_isOperand_32 : decode b_X_isOperand 32 = .ok (.goto 4, 3) := by decide +kernel
theorem d_X_isOperand_35 : decode b_X_isOperand 35 = .ok (.iconst 0, 1) := by decide +kernel
theorem d_X_isOperand_36 : decode b_X_isOperand 36 = .ok (.ireturn, 1) := by decide +kernel
theorem d_X_isOperand_37 : decode b_X_isOperand 37 = .ok (.iload_n 3, 1) := by decide +kernel
theorem d_X_isOperand_38 : decode b_X_isOperand 38 = .ok (.iconst 2, 1) := by decide +kernel
theorem d_X_isOperand_39 : decode b_X_isOperand 39 = .ok (.if_icmp .eq 13, 3) := by decide +kernel
theorem d_X_isOperand_42 : decode b_X_isOperand 42 = .ok (.aload_n 1, 1) := by decide +kernel
theorem d_X_isOperand_43 : decode b_X_isOperand 43 = .ok (.iload_n 2, 1) := by decide +kernel
theorem d_X_isOperand_44 : decode b_X_isOperand 44 = .ok (.invokevirtual 87, 3) := by decide +kernel
theorem d_X_isOperand_47 : decode b_X_isOperand 47 = .ok (.bipush 36, 2) := by decide +kernel
theorem d_X_isOperand_49 : decode b_X_isOperand 49 = .ok (.if_icmp .ne 7, 3) := by decide +kernel
theorem d_X_isOperand_52 : decode b_X_isOperand 52 = .ok (.iconst 1, 1) := by decide +kernel
theorem d_X_isOperand_53 : decode b_X_isOperand 53 = .ok (.goto 4, 3) := by decide +kernel
theorem d_X_isOperand_56 : decode b_X_isOperand 56 = .ok (.iconst 0, 1) := by decide +kernel
theorem d_X_isOperand_57 : decode b_X_isOperand 57 = .ok (.ireturn, 1) := by decide +kernel
theorem d_X_isExpression_0 : decode b_X_isExpression 0 = .ok (.iconst 1, 1) := by decide +kernel
theorem d_X_isExpression_1 : decode b_X_isExpression 1 = .ok (.istore_n 3, 1) := by decide +kernel
theorem d_X_isExpression_2 : decode b_X_isExpression 2 = .ok (.iconst 0, 1) := by decide +kernel
theorem d_X_isExpression_3 : decode b_X_isExpression 3 = .ok (.istore 4, 2) := by decide +kernel
theorem d_X_isExpression_5 : decode b_X_isExpression 5 = .ok (.iconst 0, 1) := by decide +kernel
theorem d_X_isExpression_6 : decode b_X_isExpression 6 = .ok (.istore 5, 2) := by decide +kernel
theorem d_X_isExpression_8 : decode b_X_isExpression 8 = .ok (.iload 5, 2) := by decide +kernel
theorem d_X_isExpression_10 : decode b_X_isExpression 10 = .ok (.aload_n 1, 1) := by decide +kernel
theorem d_X_isExpression_11 : decode b_X_isExpression 11 = .ok (.invokevirtual 68, 3) := by decide +kernel
theorem d_X_isExpression_14 : decode b_X_isExpression 14 = .ok (.if_icmp .ge 126, 3) := by decide +kernel
theorem d_X_isExpression_17 : decode b_X_isExpression 17 = .ok (.aload_n 1, 1) := by decide +kernel
theorem d_X_isExpression_18 : decode b_X_isExpression 18 = .ok (.iload 5, 2) := by decide +kernel
theorem d_X_isExpression_20 : decode b_X_isExpression 20 = .ok (.invokevirtual 87, 3) := by decide +kernel
theorem d_X_isExpression_23 : decode b_X_isExpression 23 = .ok (.istore 6, 2) := by decide +kernel
theorem d_X_isExpression_25 : decode b_X_isExpression 25 = .ok (.iload_n 3, 1) := by decide +kernel
theorem d_X_isExpression_26 : decode b_X_isExpression 26 = .ok (.ifCond .eq 60, 3) := by decide +kernel
theorem d_X_isExpression_29 : decode b_X_isExpression 29 = .ok (.aload_n 0, 1) := by decide +kernel
theorem d_X_isExpression_30 : decode b_X_isExpression 30 = .ok (.aload_n 1, 1) := by decide +kernel
theorem d_X_isExpression_31 : decode b_X_isExpression 31 = .ok (.iload 5, 2) := by decide +kernel
theorem d_X_isExpression_33 : decode b_X_isExpression 33 = .ok (.invokevirtual 90, 3) := by decide +kernel
theorem d_X_isExpression_36 : decode b_X_isExpression 36 = .ok (.ifCond .ne 7, 3) := by decide +kernel
theorem d_X_isExpression_39 : decode b_X_isExpression 39 = .ok (.iconst 1, 1) := by decide +kernel
theorem d_X_isExpression_40 : decode b_X_isExpression 40 = .ok (.goto 4, 3) := by decide +kernel
theorem d_X_isExpression_43 : decode b_X_isExpression 43 = .ok (.iconst 0, 1) := by decide +kernel
theorem d_X_isExpression_44 : decode b_X_isExpression 44 = .ok (.istore_n 3, 1) := by decide +kernel
theorem d_X_isExpression_45 : decode b_X_isExpression 45 = .ok (.iload_n 3, 1) := by decide +kernel
theorem d_X_isExpression_46 : decode b_X_isExpression 46 = .ok (.ifCond .eq 20, 3) := by decide +kernel
theorem d_X_isExpression_49 : decode b_X_isExpression 49 = .ok (.iload 6, 2) := by decide +kernel
theorem d_X_isExpression_51 : decode b_X_isExpression 51 = .ok (.bipush 40, 2) := by decide +kernel
theorem d_X_isExpression_53 : decode b_X_isExpression 53 = .ok (.if_icmp .eq 13, 3) := by decide +kernel
theorem d_X_isExpression_56 : decode b_X_isExpression 56 = .ok (.iload 6, 2) := by decide +kernel
theorem d_X_isExpression_58 : decode b_X_isExpression 58 = .ok (.invokestatic 94, 3) := by decide +kernel
theorem d_X_isExpression_61 : decode b_X_isExpression 61 = .ok (.ifCond .ne 5, 3) := by decide +kernel
theorem d_X_isExpression_64 : decode b_X_isExpression 64 = .ok (.iconst 0, 1) := by decide +kernel
theorem d_X_isExpression_65 : decode b_X_isExpression 65 = .ok (.ireturn, 1) := by decide +kernel
theorem d_X_isExpression_66 : decode b_X_isExpression 66 = .ok (.iload 4, 2) := by decide +kernel
theorem d_X_isExpression_68 : decode b_X_isExpression 68 = .ok (.iload 6, 2) := by decide +kernel
theorem d_X_isExpression_70 : decode b_X_isExpression 70 = .ok (.bipush 40, 2) := by decide +kernel
theorem d_X_isExpression_72 : decode b_X_isExpression 72 = .ok (.if_icmp .ne 7, 3) := by decide +kernel
theorem d_X_isExpression_75 : decode b_X_isExpression 75 = .ok (.iconst 1, 1) := by decide +kernel
theorem d_X_isExpression_76 : decode b_X_isExpression 76 = .ok (.goto 4, 3) := by decide +kernel
theorem d_X_isExpression_79 : decode b_X_isExpression 79 = .ok (.iconst 0, 1) := by decide +kernel
theorem d_X_isExpression_80 : decode b_X_isExpression 80 = .ok (.iadd, 1) := by decide +kernel
theorem d_X_isExpression_81 : decode b_X_isExpression 81 = .ok (.istore 4, 2) := by decide +kernel
theorem d_X_isExpression_83 : decode b_X_isExpression 83 = .ok (.goto 51, 3) := by decide +kernel
theorem d_X_isExpression_86 : decode b_X_isExpression 86 = .ok (.iload 6, 2) := by decide +kernel
theorem d_X_isExpression_88 : decode b_X_isExpression 88 = .ok (.bipush 41, 2) := by decide +kernel
theorem d_X_isExpression_90 : decode b_X_isExpression 90 = .ok (.if_icmp .ne 13, 3) := by decide +kernel
theorem d_X_isExpression_93 : decode b_X_isExpression 93 = .ok (.iinc 4 (-1), 3) := by decide +kernel
theorem d_X_isExpression_96 : decode b_X_isExpression 96 = .ok (.iload 4, 2) := by decide +kernel
theorem d_X_isExpression_98 : decode b_X_isExpression 98 = .ok (.ifCond .ge 36, 3) := by decide +kernel
theorem d_X_isExpression_101 : decode b_X_isExpression 101 = .ok (.iconst 0, 1) := by decide +kernel
theorem d_X_isExpression_102 : decode b_X_isExpression 102 = .ok (.ireturn, 1) := by decide +kernel
theorem d_X_isExpression_103 : decode b_X_isExpression 103 = .ok (.iload_n 2, 1) := by decide +kernel
theorem d_X_isExpression_104 : decode b_X_isExpression 104 = .ok (.ifCond .eq 13, 3) := by decide +kernel
theorem d_X_isExpression_107 : decode b_X_isExpression 107 = .ok (.iload 4, 2) := by decide +kernel
theorem d_X_isExpression_109 : decode b_X_isExpression 109 = .ok (.ifCond .ne 8, 3) := by decide +kernel
theorem d_X_isExpression_112 : decode b_X_isExpression 112 = .ok (.bipush 6, 2) := by decide +kernel
theorem d_X_isExpression_114 : decode b_X_isExpression 114 = .ok (.goto 4, 3) := by decide +kernel
theorem d_X_isExpression_117 : decode b_X_isExpression 117 = .ok (.iconst 1, 1) := by decide +kernel
theorem d_X_isExpression_118 : decode b_X_isExpression 118 = .ok (.istore 7, 2) := by decide +kernel
theorem d_X_isExpression_120 : decode b_X_isExpression 120 = .ok (.iload 6, 2) := by decide +kernel
theorem d_X_isExpression_122 : decode b_X_isExpression 122 = .ok (.invokestatic 98, 3) := by decide +kernel
theorem d_X_isExpression_125 : decode b_X_isExpression 125 = .ok (.iload 7, 2) := by decide +kernel
theorem d_X_isExpression_127 : decode b_X_isExpression 127 = .ok (.if_icmp .ge 5, 3) := by decide +kernel
theorem d_X_isExpression_130 : decode b_X_isExpression 130 = .ok (.iconst 0, 1) := by decide +kernel
theorem d_X_isExpression_131 : decode b_X_isExpression 131 = .ok (.ireturn, 1) := by decide +kernel
theorem d_X_isExpression_132 : decode b_X_isExpression 132 = .ok (.iconst 1, 1) := by decide +kernel
theorem d_X_isExpression_133 : decode b_X_isExpression 133 = .ok (.istore_n 3, 1) := by decide +kernel
theorem d_X_isExpression_134 : decode b_X_isExpression 134 = .ok (.iinc 5 1, 3) := by decide +kernel
theorem d_X_isExpression_137 : decode b_X_isExpression 137 = .ok (.goto (-129), 3) := by decide +kernel
theorem d_X_isExpression_140 : decode b_X_isExpression 140 = .ok (.iload_n 3, 1) := by decide +kernel
theorem d_X_isExpression_141 : decode b_X_isExpression 141 = .ok (.ifCond .ne 12, 3) := by decide +kernel
theorem d_X_isExpression_144 : decode b_X_isExpression 144 = .ok (.iload 4, 2) := by decide +kernel
theorem d_X_isExpression_146 : decode b_X_isExpression 146 = .ok (.ifCond .ne 7, 3) := by decide +kernel
theorem d_X_isExpression_149 : decode b_X_isExpression 149 = .ok (.iconst 1, 1) := by decide +kernel
theorem d_X_isExpression_150 : decode b_X_isExpression 150 = .ok (.goto 4, 3) := by decide +kernel
theorem d_X_isExpression_153 : decode b_X_isExpression 153 = .ok (.iconst 0, 1) := by decide +kernel
theorem d_X_isExpression_154 : decode b_X_isExpression 154 = .ok (.ireturn, 1) := by decide +kernel
theorem wb_421 : Cond.methodLink R_X 87 y_T_signOf ∈ WB := wbm (i := 742) (by decide +kernel) rfl
theorem wb_422 : Cond.code y_T_signOf b_T_signOf 2 (some .int) ∈ WB := wbm (i := 745) (by decide +kernel) rfl
theorem wb_423 : Cond.instanceMethod y_T_signOf ∈ WB := wbm (i := 743) (by decide +kernel) rfl
theorem wb_424 : Cond.selects R_T y_T_signOf y_T_signOf ∈ WB := wbm (i := 744) (by decide +kernel) rfl
theorem wb_425 : Cond.methodLink R_X 90 y_X_isOperand ∈ WB := wbm (i := 750) (by decide +kernel) rfl
theorem wb_426 : Cond.code y_X_isOperand b_X_isOperand 5 (some .boolean) ∈ WB := wbm (i := 753) (by decide +kernel) rfl
theorem wb_427 : Cond.instanceMethod y_X_isOperand ∈ WB := wbm (i := 752) (by decide +kernel) rfl
theorem wb_428 : Cond.selects R_X y_X_isOperand y_X_isOperand ∈ WB := wbm (i := 13) (by decide +kernel) rfl
theorem wb_429 : Cond.methodLink R_X 94 y_X_isPrefix ∈ WB := wbm (i := 758) (by decide +kernel) rfl
theorem wb_430 : Cond.code y_X_isPrefix b_X_isPrefix 1 (some .boolean) ∈ WB := wbm (i := 760) (by decide +kernel) rfl
theorem wb_431 : Cond.static y_X_isPrefix ∈ WB := wbm (i := 759) (by decide +kernel) rfl
theorem nl_7 : Cond.fieldLinkNest R_X 105 R_N "barred" "Z" R_R ∈ NL := nlm (i := 653) (by decide +kernel) rfl
def f_X_isOperand (xm : Nat → Option Nat) (tn : Int32) (tk : Nat → Int32) (tw : Nat → Int64) (ns : List NmR) (p1 : Int32) : Option (Int32) := (f_T_kindOf tn tk p1).bind (fun o_1 => if o_1 = (1 : Int32) then (f_X_meaningOf xm p1).bind (fun o_6 => oc o_6 (some ((1 : Int32))) (fun z_7 => (nsg ns z_7).bind (fun r_8 => if r_8.2.2.2.2.1 = (0 : Int32) then some ((1 : Int32)) else some ((0 : Int32))))) else if o_1 = (2 : Int32) then some ((1 : Int32)) else (f_T_signOf tn tk tw p1).bind (fun o_4 => if o_4 = (36 : Int32) then some ((1 : Int32)) else some ((0 : Int32))))
set_option maxHeartbeats 4000000 in
set_option maxRecDepth 100000 in
theorem c_X_isOperand (l : Launch) (dC : Nat → ClassId) (dI : Nat → Nat → Nat) (aX aM aY aV aC aP aO aT aK aG aE aW : Nat) (cM cK cW cB : ClassId) (sz : Nat) (xn : Int32) (xm : Nat → Option Nat) (tn : Int32) (ts : Int32) (tk : Nat → Int32) (tw : Nat → Int64) (ns : List NmR) (p1 : Int32) (o : Int32) (hf : f_X_isOperand xm tn tk tw ns p1 = some o) : Met l y_X_isOperand (w_X_isOperand) ({ frames := 3, cells := 0, slots := 0, locals := 63 }) (va_Pc [.ref aX, .ref aT, .int p1] (fun U => U.heap.size = sz ∧ va_P (dC, dI) vwCl (([(aX, .inr (5, [.ref aM, .ref aY, .int xn, .ref aV])), (aM, .inl (cM, 1024, .inr (.inr (.inr (.inr xm))))), (aT, .inr (2, [.ref aK, .ref aG, .ref aE, .ref aW, .int tn, .int ts])), (aK, .inl (cK, 1024, .inl tk)), (aW, .inl (cW, 1024, .inr (.inl tw)))] : va_W) ++ np cB ns) U.heap ∧ va_K (dC, dI) vwCl [(cM, (.object "ExpressionReader$Name")), (cK, .byte), (cW, .long), (cB, .byte)] U ∧ va_D (fun _ => True) (([(aX, .inr (5, [.ref aM, .ref aY, .int xn, .ref aV])), (aM, .inl (cM, 1024, .inr (.inr (.inr (.inr xm))))), (aT, .inr (2, [.ref aK, .ref aG, .ref aE, .ref aW, .int tn, .int ts])), (aK, .inl (cK, 1024, .inl tk)), (aW, .inl (cW, 1024, .inr (.inl tw)))] : va_W) ++ np cB ns) ∧ NW U)) (va_Qi (fun (r : Int32) (_ : Unit) => r = o ∧ narrow .boolean (.int r) = .int r) (fun _ t => va_P (dC, dI) vwCl (([(aX, .inr (5, [.ref aM, .ref aY, .int xn, .ref aV])), (aM, .inl (cM, 1024, .inr (.inr (.inr (.inr xm))))), (aT, .inr (2, [.ref aK, .ref aG, .ref aE, .ref aW, .int tn, .int ts])), (aK, .inl (cK, 1024, .inl tk)), (aW, .inl (cW, 1024, .inr (.inl tw)))] : va_W) ++ np cB ns) t.heap ∧ va_K (dC, dI) vwCl [(cM, (.object "ExpressionReader$Name")), (cK, .byte), (cW, .long), (cB, .byte)] t ∧ va_D (va_A (([(aX, .inr (5, [.ref aM, .ref aY, .int xn, .ref aV])), (aM, .inl (cM, 1024, .inr (.inr (.inr (.inr xm))))), (aT, .inr (2, [.ref aK, .ref aG, .ref aE, .ref aW, .int tn, .int ts])), (aK, .inl (cK, 1024, .inl tk)), (aW, .inl (cW, 1024, .inr (.inl tw)))] : va_W) ++ np cB ns) sz) (([(aX, .inr (5, [.ref aM, .ref aY, .int xn, .ref aV])), (aM, .inl (cM, 1024, .inr (.inr (.inr (.inr xm))))), (aT, .inr (2, [.ref aK, .ref aG, .ref aE, .ref aW, .int tn, .int ts])), (aK, .inl (cK, 1024, .inl tk)), (aW, .inl (cW, 1024, .inr (.inl tw)))] : va_W) ++ np cB ns)) (va_A (([(aX, .inr (5, [.ref aM, .ref aY, .int xn, .ref aV])), (aM, .inl (cM, 1024, .inr (.inr (.inr (.inr xm))))), (aT, .inr (2, [.ref aK, .ref aG, .ref aE, .ref aW, .int tn, .int ts])), (aK, .inl (cK, 1024, .inl tk)), (aW, .inl (cW, 1024, .inr (.inl tw)))] : va_W) ++ np cB ns) sz)) 0 0 (va_A (([(aX, .inr (5, [.ref aM, .ref aY, .int xn, .ref aV])), (aM, .inl (cM, 1024, .inr (.inr (.inr (.inr xm))))), (aT, .inr (2, [.ref aK, .ref aG, .ref aE, .ref aW, .int tn, .int ts])), (aK, .inl (cK, 1024, .inl tk)), (aW, .inl (cW, 1024, .inr (.inl tw)))] : va_W) ++ np cB ns) sz) := by
  refine Met.ofW (cc := b_X_isOperand) (maxL := 5) (ret := (some .boolean)) (by decide) rfl ?_
  intro p e s m args below meth c s₁ B hml hv
  obtain ⟨rfl, hsz, hP, hK, hD0, hN⟩ := hv
  have hx := B.exec
  have hb := B.bytes
  have hr := B.returns
  have hts : ∀ w ∈ WB, w.before _ s = true := fun w h => atoms_spec (ws := w_X_isOperand) B.pre w (List.mem_cons_of_mem _ h)
  have hown : s.vm.findClass R_X = some m.cls := findClass_of_methodNamed B.named
  have hlocks := B.notSynchronized
  subst hsz
  have hD := hD0.self (sz := s.heap.size)
  generalize hAe : va_A (([(aX, .inr (5, [.ref aM, .ref aY, .int xn, .ref aV])), (aM, .inl (cM, 1024, .inr (.inr (.inr (.inr xm))))), (aT, .inr (2, [.ref aK, .ref aG, .ref aE, .ref aW, .int tn, .int ts])), (aK, .inl (cK, 1024, .inl tk)), (aW, .inl (cW, 1024, .inr (.inl tw)))] : va_W) ++ np cB ns) s.heap.size = A at hD ⊢
  have hA : ∀ q : Nat, s.heap.size ≤ q → A q := fun q h => by rw [← hAe]; exact Or.inr h
  have hS : va_S A s.heap s.heap [] := va_S.rf
  have hP : va_P (dC, dI) vwCl (([(aX, .inr (5, [.ref aM, .ref aY, .int xn, .ref aV])), (aM, .inl (cM, 1024, .inr (.inr (.inr (.inr xm))))), (aT, .inr (2, [.ref aK, .ref aG, .ref aE, .ref aW, .int tn, .int ts])), (aK, .inl (cK, 1024, .inl tk)), (aW, .inl (cW, 1024, .inr (.inl tw)))] : va_W) ++ np cB ns) s.heap := hP
  have hl := lv_entry [.ref aX, .ref aT, .int p1] (n := 5) (Nat.le_of_ble_eq_true rfl)
  rw [lg_entry_eq]
  generalize (lg_sl [.ref aX, .ref aT, .int p1] ++ List.replicate (5 - (lg_sl [.ref aX, .ref aT, .int p1]).length) Slot.unset).toArray = ls at hl ⊢
  have hl : lv_has ls 5 [(0, .ref aX), (1, .ref aT), (2, .int p1)] := hl
  suffices key : ∀ Q : State → Prop, Q = (MQ below (va_Qi (fun (r : Int32) (_ : Unit) => r = o ∧ narrow .boolean (.int r) = .int r) (fun _ t => va_P (dC, dI) vwCl (([(aX, .inr (5, [.ref aM, .ref aY, .int xn, .ref aV])), (aM, .inl (cM, 1024, .inr (.inr (.inr (.inr xm))))), (aT, .inr (2, [.ref aK, .ref aG, .ref aE, .ref aW, .int tn, .int ts])), (aK, .inl (cK, 1024, .inl tk)), (aW, .inl (cW, 1024, .inr (.inl tw)))] : va_W) ++ np cB ns) t.heap ∧ va_K (dC, dI) vwCl [(cM, (.object "ExpressionReader$Name")), (cK, .byte), (cW, .long), (cB, .byte)] t ∧ va_D A (([(aX, .inr (5, [.ref aM, .ref aY, .int xn, .ref aV])), (aM, .inl (cM, 1024, .inr (.inr (.inr (.inr xm))))), (aT, .inr (2, [.ref aK, .ref aG, .ref aE, .ref aW, .int tn, .int ts])), (aK, .inl (cK, 1024, .inl tk)), (aW, .inl (cW, 1024, .inr (.inl tw)))] : va_W) ++ np cB ns)) A) [.ref aX, .ref aT, .int p1].toArray s 0 0 A) → W p l e (headSpec (w_X_isOperand) ({ frames := 3, cells := 0, slots := 0, locals := 63 })).room s m [.ref aX, .ref aT, .int p1].toArray below meth c s.heap [] 0 0 Q (F0 m 0 ls []) from key _ rfl
  intro Q hQ
  unfold f_X_isOperand at hf
  refine lv_aload_n hx hb d_X_isOperand_0 rfl (lv_at hl 1 rfl) ?_
  refine lv_iload_n hx hb d_X_isOperand_1 rfl (lv_at hl 2 rfl) ?_
  obtain ⟨o_1, hM_1, hf⟩ := bd_some hf
  refine cr_i (va_runV (As := [.int p1]) (rest := []) ⟨hx, hb, hml, hown, hts⟩ (c_T_kindOf l dC dI aT aK aG aE aW cK s.heap.size tn ts tk p1 o_1 hM_1) (cwV 1 hts (gwV wb_153 wb_40 wb_41 wb_32 wb_39) rfl rfl rfl (by decide +kernel) ⟨Nat.le_of_ble_eq_true rfl, Nat.le_of_ble_eq_true rfl⟩) (pr_V (hP.sub [2, 3] rfl) (hD.sub [2, 3] (by decide) rfl) hK hN [1] rfl (ci := 2) rfl rfl rfl) rfl rfl hl.1 rfl (lv_room (Nat.le_of_ble_eq_true rfl)) d_X_isOperand_2 ⟨Nat.zero_le _, Nat.zero_le _⟩) hP hD hS hA (in_of [2, 3] rfl) (fun r_1 H locs hw hP hS => ?_)
  subst r_1
  refine lv_istore_n (lv' := [(3, .int o_1), (0, .ref aX), (1, .ref aT), (2, .int p1)]) hx hb d_X_isOperand_5 rfl hl (by decide) rfl (fun ls hl => ?_)
  refine lv_iload_n hx hb d_X_isOperand_6 rfl (lv_at hl 0 rfl) ?_
  refine lv_iconst (v := (1 : Int32)) hx hb d_X_isOperand_7 (by decide) ?_
  refine lv_icmp_ne (tgt := 37) hx hb d_X_isOperand_8 (by decide) (fun c_2 => ?_) (fun c_2 => ?_)
  · rw [if_neg c_2] at hf
    refine lv_iload_n hx hb d_X_isOperand_37 rfl (lv_at hl 0 rfl) ?_
    refine lv_iconst (v := (2 : Int32)) hx hb d_X_isOperand_38 (by decide) ?_
    refine lv_icmp_eq (tgt := 52) hx hb d_X_isOperand_39 (by decide) (fun c_3 => ?_) (fun c_3 => ?_)
    · rw [if_pos c_3] at hf
      refine lv_iconst (v := (1 : Int32)) hx hb d_X_isOperand_52 (by decide) ?_
      refine lv_goto (tgt := 57) hx hb d_X_isOperand_53 (by decide) ?_
      have ho := Option.some.inj hf
      have hP9 : va_P (dC, dI) vwCl (([(aX, .inr (5, [.ref aM, .ref aY, .int xn, .ref aV])), (aM, .inl (cM, 1024, .inr (.inr (.inr (.inr xm))))), (aT, .inr (2, [.ref aK, .ref aG, .ref aE, .ref aW, .int tn, .int ts])), (aK, .inl (cK, 1024, .inl tk)), (aW, .inl (cW, 1024, .inr (.inl tw)))] : va_W) ++ np cB ns) H := by exact hP.part (cx := [(aX, .inr (5, [.ref aM, .ref aY, .int xn, .ref aV])), (aM, .inl (cM, 1024, .inr (.inr (.inr (.inr xm))))), (aT, .inr (2, [.ref aK, .ref aG, .ref aE, .ref aW, .int tn, .int ts])), (aK, .inl (cK, 1024, .inl tk)), (aW, .inl (cW, 1024, .inr (.inl tw)))]) [0, 1, 2, 3, 4] rfl
      have hD9 : va_D A (([(aX, .inr (5, [.ref aM, .ref aY, .int xn, .ref aV])), (aM, .inl (cM, 1024, .inr (.inr (.inr (.inr xm))))), (aT, .inr (2, [.ref aK, .ref aG, .ref aE, .ref aW, .int tn, .int ts])), (aK, .inl (cK, 1024, .inl tk)), (aW, .inl (cW, 1024, .inr (.inl tw)))] : va_W) ++ np cB ns) := by exact hD.part (cx := [(aX, .inr (5, [.ref aM, .ref aY, .int xn, .ref aV])), (aM, .inl (cM, 1024, .inr (.inr (.inr (.inr xm))))), (aT, .inr (2, [.ref aK, .ref aG, .ref aE, .ref aW, .int tn, .int ts])), (aK, .inl (cK, 1024, .inl tk)), (aW, .inl (cW, 1024, .inr (.inl tw)))]) [0, 1, 2, 3, 4] (by decide) rfl
      rw [hQ]
      exact W.zret (v := (1 : Int32)) (ty := .boolean) hx hb hr rfl (fun t ht hW => ⟨⟨(1 : Int32), (), rfl, ⟨congrArg (fun z => z) ho, rfl⟩, by rw [ht]; exact hP9, va_K.moved hW.alike hK, hD9⟩, hS.F ht⟩) hS.2.2 d_X_isOperand_57
    · rw [if_neg c_3] at hf
      refine lv_aload_n hx hb d_X_isOperand_42 rfl (lv_at hl 2 rfl) ?_
      refine lv_iload_n hx hb d_X_isOperand_43 rfl (lv_at hl 3 rfl) ?_
      obtain ⟨o_4, hM_4, hf⟩ := bd_some hf
      refine cr_i (va_runV (As := [.int p1]) (rest := []) ⟨hx, hb, hml, hown, hts⟩ (c_T_signOf l dC dI aT aK aG aE aW cK cW H.size tn ts tk tw p1 o_4 hM_4) (cwV 1 hts (gwV wb_421 wb_423 wb_424 wb_32 wb_422) rfl rfl rfl (by decide +kernel) ⟨Nat.le_of_ble_eq_true rfl, Nat.le_of_ble_eq_true rfl⟩) (pr_V (hP.sub [2, 3, 4] rfl) (hD.sub [2, 3, 4] (by decide) rfl) hK hN [1, 2] rfl (ci := 2) rfl rfl rfl) rfl rfl hl.1 rfl (lv_room (Nat.le_of_ble_eq_true rfl)) d_X_isOperand_44 ⟨Nat.zero_le _, Nat.zero_le _⟩) hP hD hS hA (in_of [2, 3, 4] rfl) (fun r_4 H locs hw hP hS => ?_)
      subst r_4
      refine lv_bipush (v := (36 : Int32)) hx hb d_X_isOperand_47 (by decide) ?_
      refine lv_icmp_ne (tgt := 56) hx hb d_X_isOperand_49 (by decide) (fun c_5 => ?_) (fun c_5 => ?_)
      · rw [if_neg c_5] at hf
        refine lv_iconst (v := (0 : Int32)) hx hb d_X_isOperand_56 (by decide) ?_
        have ho := Option.some.inj hf
        have hP9 : va_P (dC, dI) vwCl (([(aX, .inr (5, [.ref aM, .ref aY, .int xn, .ref aV])), (aM, .inl (cM, 1024, .inr (.inr (.inr (.inr xm))))), (aT, .inr (2, [.ref aK, .ref aG, .ref aE, .ref aW, .int tn, .int ts])), (aK, .inl (cK, 1024, .inl tk)), (aW, .inl (cW, 1024, .inr (.inl tw)))] : va_W) ++ np cB ns) H := by exact hP.part (cx := [(aX, .inr (5, [.ref aM, .ref aY, .int xn, .ref aV])), (aM, .inl (cM, 1024, .inr (.inr (.inr (.inr xm))))), (aT, .inr (2, [.ref aK, .ref aG, .ref aE, .ref aW, .int tn, .int ts])), (aK, .inl (cK, 1024, .inl tk)), (aW, .inl (cW, 1024, .inr (.inl tw)))]) [0, 1, 2, 3, 4] rfl
        have hD9 : va_D A (([(aX, .inr (5, [.ref aM, .ref aY, .int xn, .ref aV])), (aM, .inl (cM, 1024, .inr (.inr (.inr (.inr xm))))), (aT, .inr (2, [.ref aK, .ref aG, .ref aE, .ref aW, .int tn, .int ts])), (aK, .inl (cK, 1024, .inl tk)), (aW, .inl (cW, 1024, .inr (.inl tw)))] : va_W) ++ np cB ns) := by exact hD.part (cx := [(aX, .inr (5, [.ref aM, .ref aY, .int xn, .ref aV])), (aM, .inl (cM, 1024, .inr (.inr (.inr (.inr xm))))), (aT, .inr (2, [.ref aK, .ref aG, .ref aE, .ref aW, .int tn, .int ts])), (aK, .inl (cK, 1024, .inl tk)), (aW, .inl (cW, 1024, .inr (.inl tw)))]) [0, 1, 2, 3, 4] (by decide) rfl
        rw [hQ]
        exact W.zret (v := (0 : Int32)) (ty := .boolean) hx hb hr rfl (fun t ht hW => ⟨⟨(0 : Int32), (), rfl, ⟨congrArg (fun z => z) ho, rfl⟩, by rw [ht]; exact hP9, va_K.moved hW.alike hK, hD9⟩, hS.F ht⟩) hS.2.2 d_X_isOperand_57
      · rw [if_pos c_5] at hf
        refine lv_iconst (v := (1 : Int32)) hx hb d_X_isOperand_52 (by decide) ?_
        refine lv_goto (tgt := 57) hx hb d_X_isOperand_53 (by decide) ?_
        have ho := Option.some.inj hf
        have hP9 : va_P (dC, dI) vwCl (([(aX, .inr (5, [.ref aM, .ref aY, .int xn, .ref aV])), (aM, .inl (cM, 1024, .inr (.inr (.inr (.inr xm))))), (aT, .inr (2, [.ref aK, .ref aG, .ref aE, .ref aW, .int tn, .int ts])), (aK, .inl (cK, 1024, .inl tk)), (aW, .inl (cW, 1024, .inr (.inl tw)))] : va_W) ++ np cB ns) H := by exact hP.part (cx := [(aX, .inr (5, [.ref aM, .ref aY, .int xn, .ref aV])), (aM, .inl (cM, 1024, .inr (.inr (.inr (.inr xm))))), (aT, .inr (2, [.ref aK, .ref aG, .ref aE, .ref aW, .int tn, .int ts])), (aK, .inl (cK, 1024, .inl tk)), (aW, .inl (cW, 1024, .inr (.inl tw)))]) [0, 1, 2, 3, 4] rfl
        have hD9 : va_D A (([(aX, .inr (5, [.ref aM, .ref aY, .int xn, .ref aV])), (aM, .inl (cM, 1024, .inr (.inr (.inr (.inr xm))))), (aT, .inr (2, [.ref aK, .ref aG, .ref aE, .ref aW, .int tn, .int ts])), (aK, .inl (cK, 1024, .inl tk)), (aW, .inl (cW, 1024, .inr (.inl tw)))] : va_W) ++ np cB ns) := by exact hD.part (cx := [(aX, .inr (5, [.ref aM, .ref aY, .int xn, .ref aV])), (aM, .inl (cM, 1024, .inr (.inr (.inr (.inr xm))))), (aT, .inr (2, [.ref aK, .ref aG, .ref aE, .ref aW, .int tn, .int ts])), (aK, .inl (cK, 1024, .inl tk)), (aW, .inl (cW, 1024, .inr (.inl tw)))]) [0, 1, 2, 3, 4] (by decide) rfl
        rw [hQ]
        exact W.zret (v := (1 : Int32)) (ty := .boolean) hx hb hr rfl (fun t ht hW => ⟨⟨(1 : Int32), (), rfl, ⟨congrArg (fun z => z) ho, rfl⟩, by rw [ht]; exact hP9, va_K.moved hW.alike hK, hD9⟩, hS.F ht⟩) hS.2.2 d_X_isOperand_57
  · rw [if_pos c_2] at hf
    refine lv_aload_n hx hb d_X_isOperand_11 rfl (lv_at hl 1 rfl) ?_
    refine lv_iload_n hx hb d_X_isOperand_12 rfl (lv_at hl 3 rfl) ?_
    obtain ⟨o_6, hM_6, hf⟩ := bd_some hf
    refine cr_q (va_runV (As := [.int p1]) (rest := []) ⟨hx, hb, hml, hown, hts⟩ (c_X_meaningOf l dC dI aX aM aY aV aC aP aO cM H.size xn xm p1 o_6 hM_6) (cwV 1 hts (gwV wb_154 wb_156 wb_157 wb_158 wb_155) rfl rfl rfl (by decide +kernel) ⟨Nat.le_of_ble_eq_true rfl, Nat.le_of_ble_eq_true rfl⟩) (pr_V (hP.sub [0, 1] rfl) (hD.sub [0, 1] (by decide) rfl) hK hN [0] rfl (ci := 5) rfl rfl rfl) rfl rfl hl.1 rfl (lv_room (Nat.le_of_ble_eq_true rfl)) d_X_isOperand_13 ⟨Nat.zero_le _, Nat.zero_le _⟩) hP hD hS hA (in_of [0, 1] rfl) (fun r_6 H locs hw hP hS => ?_)
    subst r_6
    cases e_7 : o_6 with
    | none =>
      rw [e_7, oc_none] at hf
      refine W.eq (g2 := F0 m 16 ls [.null]) rfl ?_
      refine lv_astoreN (lv' := [(4, .null), (3, .int o_1), (0, .ref aX), (1, .ref aT), (2, .int p1)]) hx hb d_X_isOperand_16 hl (by decide) rfl (fun ls hl => ?_)
      refine lv_aloadN hx hb d_X_isOperand_18 (lv_at hl 0 rfl) ?_
      refine lv_ifnullN (tgt := 31) hx hb d_X_isOperand_20 (by decide) ?_
      refine lv_iconst (v := (1 : Int32)) hx hb d_X_isOperand_31 (by decide) ?_
      refine lv_goto (tgt := 36) hx hb d_X_isOperand_32 (by decide) ?_
      have ho := Option.some.inj hf
      have hP9 : va_P (dC, dI) vwCl (([(aX, .inr (5, [.ref aM, .ref aY, .int xn, .ref aV])), (aM, .inl (cM, 1024, .inr (.inr (.inr (.inr xm))))), (aT, .inr (2, [.ref aK, .ref aG, .ref aE, .ref aW, .int tn, .int ts])), (aK, .inl (cK, 1024, .inl tk)), (aW, .inl (cW, 1024, .inr (.inl tw)))] : va_W) ++ np cB ns) H := by exact hP.part (cx := [(aX, .inr (5, [.ref aM, .ref aY, .int xn, .ref aV])), (aM, .inl (cM, 1024, .inr (.inr (.inr (.inr xm))))), (aT, .inr (2, [.ref aK, .ref aG, .ref aE, .ref aW, .int tn, .int ts])), (aK, .inl (cK, 1024, .inl tk)), (aW, .inl (cW, 1024, .inr (.inl tw)))]) [0, 1, 2, 3, 4] rfl
      have hD9 : va_D A (([(aX, .inr (5, [.ref aM, .ref aY, .int xn, .ref aV])), (aM, .inl (cM, 1024, .inr (.inr (.inr (.inr xm))))), (aT, .inr (2, [.ref aK, .ref aG, .ref aE, .ref aW, .int tn, .int ts])), (aK, .inl (cK, 1024, .inl tk)), (aW, .inl (cW, 1024, .inr (.inl tw)))] : va_W) ++ np cB ns) := by exact hD.part (cx := [(aX, .inr (5, [.ref aM, .ref aY, .int xn, .ref aV])), (aM, .inl (cM, 1024, .inr (.inr (.inr (.inr xm))))), (aT, .inr (2, [.ref aK, .ref aG, .ref aE, .ref aW, .int tn, .int ts])), (aK, .inl (cK, 1024, .inl tk)), (aW, .inl (cW, 1024, .inr (.inl tw)))]) [0, 1, 2, 3, 4] (by decide) rfl
      rw [hQ]
      exact W.zret (v := (1 : Int32)) (ty := .boolean) hx hb hr rfl (fun t ht hW => ⟨⟨(1 : Int32), (), rfl, ⟨congrArg (fun z => z) ho, rfl⟩, by rw [ht]; exact hP9, va_K.moved hW.alike hK, hD9⟩, hS.F ht⟩) hS.2.2 d_X_isOperand_36
    | some z_7 =>
      rw [e_7, oc_some] at hf
      refine W.eq (g2 := F0 m 16 ls [.ref z_7]) rfl ?_
      refine lv_astore (lv' := [(4, .ref z_7), (3, .int o_1), (0, .ref aX), (1, .ref aT), (2, .int p1)]) hx hb d_X_isOperand_16 hl (by decide) rfl (fun ls hl => ?_)
      refine lv_aload hx hb d_X_isOperand_18 (lv_at hl 0 rfl) ?_
      refine lv_ifnull hx hb d_X_isOperand_20 ?_
      refine lv_aload hx hb d_X_isOperand_23 (lv_at hl 0 rfl) ?_
      obtain ⟨r_8, hr_8, hf⟩ := bd_some hf
      obtain ⟨kz_8, hz_8, hy_8⟩ := np_get (X := [(aX, .inr (5, [.ref aM, .ref aY, .int xn, .ref aV])), (aM, .inl (cM, 1024, .inr (.inr (.inr (.inr xm))))), (aT, .inr (2, [.ref aK, .ref aG, .ref aE, .ref aW, .int tn, .int ts])), (aK, .inl (cK, 1024, .inl tk)), (aW, .inl (cW, 1024, .inr (.inl tw)))]) (cB := cB) hr_8
      refine va_getN (D := (dC, dI)) (ci := 3) (v := .int r_8.2.2.2.2.1) (C := R_N) (T := F_N) (N := 4) (host := R_R) hx hb hts i_N hown hK hP kz_8 hz_8 rfl 1 (by decide) (hN.use nl_7 rfl) (fun _ h9 => h9) rfl d_X_isOperand_25 ?_
      refine lv_if_ne (tgt := 35) hx hb d_X_isOperand_28 (by decide) (fun c_9 => ?_) (fun c_9 => ?_)
      · rw [if_neg c_9] at hf
        refine lv_iconst (v := (0 : Int32)) hx hb d_X_isOperand_35 (by decide) ?_
        have ho := Option.some.inj hf
        have hP9 : va_P (dC, dI) vwCl (([(aX, .inr (5, [.ref aM, .ref aY, .int xn, .ref aV])), (aM, .inl (cM, 1024, .inr (.inr (.inr (.inr xm))))), (aT, .inr (2, [.ref aK, .ref aG, .ref aE, .ref aW, .int tn, .int ts])), (aK, .inl (cK, 1024, .inl tk)), (aW, .inl (cW, 1024, .inr (.inl tw)))] : va_W) ++ np cB ns) H := by exact hP.part (cx := [(aX, .inr (5, [.ref aM, .ref aY, .int xn, .ref aV])), (aM, .inl (cM, 1024, .inr (.inr (.inr (.inr xm))))), (aT, .inr (2, [.ref aK, .ref aG, .ref aE, .ref aW, .int tn, .int ts])), (aK, .inl (cK, 1024, .inl tk)), (aW, .inl (cW, 1024, .inr (.inl tw)))]) [0, 1, 2, 3, 4] rfl
        have hD9 : va_D A (([(aX, .inr (5, [.ref aM, .ref aY, .int xn, .ref aV])), (aM, .inl (cM, 1024, .inr (.inr (.inr (.inr xm))))), (aT, .inr (2, [.ref aK, .ref aG, .ref aE, .ref aW, .int tn, .int ts])), (aK, .inl (cK, 1024, .inl tk)), (aW, .inl (cW, 1024, .inr (.inl tw)))] : va_W) ++ np cB ns) := by exact hD.part (cx := [(aX, .inr (5, [.ref aM, .ref aY, .int xn, .ref aV])), (aM, .inl (cM, 1024, .inr (.inr (.inr (.inr xm))))), (aT, .inr (2, [.ref aK, .ref aG, .ref aE, .ref aW, .int tn, .int ts])), (aK, .inl (cK, 1024, .inl tk)), (aW, .inl (cW, 1024, .inr (.inl tw)))]) [0, 1, 2, 3, 4] (by decide) rfl
        rw [hQ]
        exact W.zret (v := (0 : Int32)) (ty := .boolean) hx hb hr rfl (fun t ht hW => ⟨⟨(0 : Int32), (), rfl, ⟨congrArg (fun z => z) ho, rfl⟩, by rw [ht]; exact hP9, va_K.moved hW.alike hK, hD9⟩, hS.F ht⟩) hS.2.2 d_X_isOperand_36
      · rw [if_pos c_9] at hf
        refine lv_iconst (v := (1 : Int32)) hx hb d_X_isOperand_31 (by decide) ?_
        refine lv_goto (tgt := 36) hx hb d_X_isOperand_32 (by decide) ?_
        have ho := Option.some.inj hf
        have hP9 : va_P (dC, dI) vwCl (([(aX, .inr (5, [.ref aM, .ref aY, .int xn, .ref aV])), (aM, .inl (cM, 1024, .inr (.inr (.inr (.inr xm))))), (aT, .inr (2, [.ref aK, .ref aG, .ref aE, .ref aW, .int tn, .int ts])), (aK, .inl (cK, 1024, .inl tk)), (aW, .inl (cW, 1024, .inr (.inl tw)))] : va_W) ++ np cB ns) H := by exact hP.part (cx := [(aX, .inr (5, [.ref aM, .ref aY, .int xn, .ref aV])), (aM, .inl (cM, 1024, .inr (.inr (.inr (.inr xm))))), (aT, .inr (2, [.ref aK, .ref aG, .ref aE, .ref aW, .int tn, .int ts])), (aK, .inl (cK, 1024, .inl tk)), (aW, .inl (cW, 1024, .inr (.inl tw)))]) [0, 1, 2, 3, 4] rfl
        have hD9 : va_D A (([(aX, .inr (5, [.ref aM, .ref aY, .int xn, .ref aV])), (aM, .inl (cM, 1024, .inr (.inr (.inr (.inr xm))))), (aT, .inr (2, [.ref aK, .ref aG, .ref aE, .ref aW, .int tn, .int ts])), (aK, .inl (cK, 1024, .inl tk)), (aW, .inl (cW, 1024, .inr (.inl tw)))] : va_W) ++ np cB ns) := by exact hD.part (cx := [(aX, .inr (5, [.ref aM, .ref aY, .int xn, .ref aV])), (aM, .inl (cM, 1024, .inr (.inr (.inr (.inr xm))))), (aT, .inr (2, [.ref aK, .ref aG, .ref aE, .ref aW, .int tn, .int ts])), (aK, .inl (cK, 1024, .inl tk)), (aW, .inl (cW, 1024, .inr (.inl tw)))]) [0, 1, 2, 3, 4] (by decide) rfl
        rw [hQ]
        exact W.zret (v := (1 : Int32)) (ty := .boolean) hx hb hr rfl (fun t ht hW => ⟨⟨(1 : Int32), (), rfl, ⟨congrArg (fun z => z) ho, rfl⟩, by rw [ht]; exact hP9, va_K.moved hW.alike hK, hD9⟩, hS.F ht⟩) hS.2.2 d_X_isOperand_36

def f_X_isExpression_l8 : Nat → (Nat → Option Nat) → Int32 → (Nat → Int32) → (Nat → Int64) → (List NmR) → Int32 → Int32 → Int32 → Int32 → Option (Int32)
  | 0, _, _, _, _, _, _, _, _, _ => none
  | n + 1, xm, tn, tk, tw, ns, x2, x3, x4, x5 => (f_T_size tn).bind (fun o_1 => if o_1 ≤ x5 then if x3 = (0 : Int32) then if x4 = (0 : Int32) then some ((1 : Int32)) else some ((0 : Int32)) else some ((0 : Int32)) else (f_T_signOf tn tk tw x5).bind (fun o_5 => if x3 = (0 : Int32) then if o_5 = (41 : Int32) then if (0 : Int32) ≤ (x4 + (-1 : Int32)) then f_X_isExpression_l8 n xm tn tk tw ns x2 x3 (x4 + (-1 : Int32)) (x5 + (1 : Int32)) else some ((0 : Int32)) else if x2 = (0 : Int32) then (f_X_rankOf o_5).bind (fun o_9 => if (1 : Int32) ≤ o_9 then f_X_isExpression_l8 n xm tn tk tw ns x2 (1 : Int32) x4 (x5 + (1 : Int32)) else some ((0 : Int32))) else if x4 = (0 : Int32) then (f_X_rankOf o_5).bind (fun o_14 => if (6 : Int32) ≤ o_14 then f_X_isExpression_l8 n xm tn tk tw ns x2 (1 : Int32) x4 (x5 + (1 : Int32)) else some ((0 : Int32))) else (f_X_rankOf o_5).bind (fun o_12 => if (1 : Int32) ≤ o_12 then f_X_isExpression_l8 n xm tn tk tw ns x2 (1 : Int32) x4 (x5 + (1 : Int32)) else some ((0 : Int32))) else (f_X_isOperand xm tn tk tw ns x5).bind (fun o_17 => if o_17 = (0 : Int32) then if (1 : Int32) = (0 : Int32) then if o_5 = (40 : Int32) then f_X_isExpression_l8 n xm tn tk tw ns x2 (1 : Int32) (x4 + (1 : Int32)) (x5 + (1 : Int32)) else f_X_isExpression_l8 n xm tn tk tw ns x2 (1 : Int32) (x4 + (0 : Int32)) (x5 + (1 : Int32)) else if o_5 = (40 : Int32) then if o_5 = (40 : Int32) then f_X_isExpression_l8 n xm tn tk tw ns x2 (1 : Int32) (x4 + (1 : Int32)) (x5 + (1 : Int32)) else f_X_isExpression_l8 n xm tn tk tw ns x2 (1 : Int32) (x4 + (0 : Int32)) (x5 + (1 : Int32)) else (f_X_isPrefix o_5).bind (fun o_30 => if o_30 = (0 : Int32) then some ((0 : Int32)) else if o_5 = (40 : Int32) then f_X_isExpression_l8 n xm tn tk tw ns x2 (1 : Int32) (x4 + (1 : Int32)) (x5 + (1 : Int32)) else f_X_isExpression_l8 n xm tn tk tw ns x2 (1 : Int32) (x4 + (0 : Int32)) (x5 + (1 : Int32))) else if (0 : Int32) = (0 : Int32) then if o_5 = (40 : Int32) then f_X_isExpression_l8 n xm tn tk tw ns x2 (0 : Int32) (x4 + (1 : Int32)) (x5 + (1 : Int32)) else f_X_isExpression_l8 n xm tn tk tw ns x2 (0 : Int32) (x4 + (0 : Int32)) (x5 + (1 : Int32)) else if o_5 = (40 : Int32) then if o_5 = (40 : Int32) then f_X_isExpression_l8 n xm tn tk tw ns x2 (0 : Int32) (x4 + (1 : Int32)) (x5 + (1 : Int32)) else f_X_isExpression_l8 n xm tn tk tw ns x2 (0 : Int32) (x4 + (0 : Int32)) (x5 + (1 : Int32)) else (f_X_isPrefix o_5).bind (fun o_23 => if o_23 = (0 : Int32) then some ((0 : Int32)) else if o_5 = (40 : Int32) then f_X_isExpression_l8 n xm tn tk tw ns x2 (0 : Int32) (x4 + (1 : Int32)) (x5 + (1 : Int32)) else f_X_isExpression_l8 n xm tn tk tw ns x2 (0 : Int32) (x4 + (0 : Int32)) (x5 + (1 : Int32))))))
def f_X_isExpression (xm : Nat → Option Nat) (tn : Int32) (tk : Nat → Int32) (tw : Nat → Int64) (ns : List NmR) (p1 : Int32) : Option (Int32) := f_X_isExpression_l8 FU xm tn tk tw ns p1 (1 : Int32) (0 : Int32) (0 : Int32)
set_option maxHeartbeats 4000000 in
set_option maxRecDepth 100000 in
theorem c_X_isExpression (l : Launch) (dC : Nat → ClassId) (dI : Nat → Nat → Nat) (aX aM aY aV aC aP aO aT aK aG aE aW : Nat) (cM cK cW cB : ClassId) (sz : Nat) (xn : Int32) (xm : Nat → Option Nat) (tn : Int32) (ts : Int32) (tk : Nat → Int32) (tw : Nat → Int64) (ns : List NmR) (p1 : Int32) (o : Int32) (hf : f_X_isExpression xm tn tk tw ns p1 = some o) : Met l y_X_isExpression (w_X_isExpression) ({ frames := 4, cells := 0, slots := 0, locals := 87 }) (va_Pc [.ref aX, .ref aT, .int p1] (fun U => U.heap.size = sz ∧ va_P (dC, dI) vwCl (([(aX, .inr (5, [.ref aM, .ref aY, .int xn, .ref aV])), (aM, .inl (cM, 1024, .inr (.inr (.inr (.inr xm))))), (aT, .inr (2, [.ref aK, .ref aG, .ref aE, .ref aW, .int tn, .int ts])), (aK, .inl (cK, 1024, .inl tk)), (aW, .inl (cW, 1024, .inr (.inl tw)))] : va_W) ++ np cB ns) U.heap ∧ va_K (dC, dI) vwCl [(cM, (.object "ExpressionReader$Name")), (cK, .byte), (cW, .long), (cB, .byte)] U ∧ va_D (fun _ => True) (([(aX, .inr (5, [.ref aM, .ref aY, .int xn, .ref aV])), (aM, .inl (cM, 1024, .inr (.inr (.inr (.inr xm))))), (aT, .inr (2, [.ref aK, .ref aG, .ref aE, .ref aW, .int tn, .int ts])), (aK, .inl (cK, 1024, .inl tk)), (aW, .inl (cW, 1024, .inr (.inl tw)))] : va_W) ++ np cB ns) ∧ NW U)) (va_Qi (fun (r : Int32) (_ : Unit) => r = o ∧ narrow .boolean (.int r) = .int r) (fun _ t => va_P (dC, dI) vwCl (([(aX, .inr (5, [.ref aM, .ref aY, .int xn, .ref aV])), (aM, .inl (cM, 1024, .inr (.inr (.inr (.inr xm))))), (aT, .inr (2, [.ref aK, .ref aG, .ref aE, .ref aW, .int tn, .int ts])), (aK, .inl (cK, 1024, .inl tk)), (aW, .inl (cW, 1024, .inr (.inl tw)))] : va_W) ++ np cB ns) t.heap ∧ va_K (dC, dI) vwCl [(cM, (.object "ExpressionReader$Name")), (cK, .byte), (cW, .long), (cB, .byte)] t ∧ va_D (va_A (([(aX, .inr (5, [.ref aM, .ref aY, .int xn, .ref aV])), (aM, .inl (cM, 1024, .inr (.inr (.inr (.inr xm))))), (aT, .inr (2, [.ref aK, .ref aG, .ref aE, .ref aW, .int tn, .int ts])), (aK, .inl (cK, 1024, .inl tk)), (aW, .inl (cW, 1024, .inr (.inl tw)))] : va_W) ++ np cB ns) sz) (([(aX, .inr (5, [.ref aM, .ref aY, .int xn, .ref aV])), (aM, .inl (cM, 1024, .inr (.inr (.inr (.inr xm))))), (aT, .inr (2, [.ref aK, .ref aG, .ref aE, .ref aW, .int tn, .int ts])), (aK, .inl (cK, 1024, .inl tk)), (aW, .inl (cW, 1024, .inr (.inl tw)))] : va_W) ++ np cB ns)) (va_A (([(aX, .inr (5, [.ref aM, .ref aY, .int xn, .ref aV])), (aM, .inl (cM, 1024, .inr (.inr (.inr (.inr xm))))), (aT, .inr (2, [.ref aK, .ref aG, .ref aE, .ref aW, .int tn, .int ts])), (aK, .inl (cK, 1024, .inl tk)), (aW, .inl (cW, 1024, .inr (.inl tw)))] : va_W) ++ np cB ns) sz)) 0 0 (va_A (([(aX, .inr (5, [.ref aM, .ref aY, .int xn, .ref aV])), (aM, .inl (cM, 1024, .inr (.inr (.inr (.inr xm))))), (aT, .inr (2, [.ref aK, .ref aG, .ref aE, .ref aW, .int tn, .int ts])), (aK, .inl (cK, 1024, .inl tk)), (aW, .inl (cW, 1024, .inr (.inl tw)))] : va_W) ++ np cB ns) sz) := by
  refine Met.ofW (cc := b_X_isExpression) (maxL := 8) (ret := (some .boolean)) (by decide) rfl ?_
  intro p e s m args below meth c s₁ B hml hv
  obtain ⟨rfl, hsz, hP, hK, hD0, hN⟩ := hv
  have hx := B.exec
  have hb := B.bytes
  have hr := B.returns
  have hts : ∀ w ∈ WB, w.before _ s = true := fun w h => atoms_spec (ws := w_X_isExpression) B.pre w (List.mem_cons_of_mem _ h)
  have hown : s.vm.findClass R_X = some m.cls := findClass_of_methodNamed B.named
  have hlocks := B.notSynchronized
  subst hsz
  have hD := hD0.self (sz := s.heap.size)
  generalize hAe : va_A (([(aX, .inr (5, [.ref aM, .ref aY, .int xn, .ref aV])), (aM, .inl (cM, 1024, .inr (.inr (.inr (.inr xm))))), (aT, .inr (2, [.ref aK, .ref aG, .ref aE, .ref aW, .int tn, .int ts])), (aK, .inl (cK, 1024, .inl tk)), (aW, .inl (cW, 1024, .inr (.inl tw)))] : va_W) ++ np cB ns) s.heap.size = A at hD ⊢
  have hA : ∀ q : Nat, s.heap.size ≤ q → A q := fun q h => by rw [← hAe]; exact Or.inr h
  have hS : va_S A s.heap s.heap [] := va_S.rf
  have hP : va_P (dC, dI) vwCl (([(aX, .inr (5, [.ref aM, .ref aY, .int xn, .ref aV])), (aM, .inl (cM, 1024, .inr (.inr (.inr (.inr xm))))), (aT, .inr (2, [.ref aK, .ref aG, .ref aE, .ref aW, .int tn, .int ts])), (aK, .inl (cK, 1024, .inl tk)), (aW, .inl (cW, 1024, .inr (.inl tw)))] : va_W) ++ np cB ns) s.heap := hP
  have hl := lv_entry [.ref aX, .ref aT, .int p1] (n := 8) (Nat.le_of_ble_eq_true rfl)
  rw [lg_entry_eq]
  generalize (lg_sl [.ref aX, .ref aT, .int p1] ++ List.replicate (8 - (lg_sl [.ref aX, .ref aT, .int p1]).length) Slot.unset).toArray = ls at hl ⊢
  have hl : lv_has ls 8 [(0, .ref aX), (1, .ref aT), (2, .int p1)] := hl
  suffices key : ∀ Q : State → Prop, Q = (MQ below (va_Qi (fun (r : Int32) (_ : Unit) => r = o ∧ narrow .boolean (.int r) = .int r) (fun _ t => va_P (dC, dI) vwCl (([(aX, .inr (5, [.ref aM, .ref aY, .int xn, .ref aV])), (aM, .inl (cM, 1024, .inr (.inr (.inr (.inr xm))))), (aT, .inr (2, [.ref aK, .ref aG, .ref aE, .ref aW, .int tn, .int ts])), (aK, .inl (cK, 1024, .inl tk)), (aW, .inl (cW, 1024, .inr (.inl tw)))] : va_W) ++ np cB ns) t.heap ∧ va_K (dC, dI) vwCl [(cM, (.object "ExpressionReader$Name")), (cK, .byte), (cW, .long), (cB, .byte)] t ∧ va_D A (([(aX, .inr (5, [.ref aM, .ref aY, .int xn, .ref aV])), (aM, .inl (cM, 1024, .inr (.inr (.inr (.inr xm))))), (aT, .inr (2, [.ref aK, .ref aG, .ref aE, .ref aW, .int tn, .int ts])), (aK, .inl (cK, 1024, .inl tk)), (aW, .inl (cW, 1024, .inr (.inl tw)))] : va_W) ++ np cB ns)) A) [.ref aX, .ref aT, .int p1].toArray s 0 0 A) → W p l e (headSpec (w_X_isExpression) ({ frames := 4, cells := 0, slots := 0, locals := 87 })).room s m [.ref aX, .ref aT, .int p1].toArray below meth c s.heap [] 0 0 Q (F0 m 0 ls []) from key _ rfl
  intro Q hQ
  have loop_8 : ∀ (n : Nat) (x2 : Int32) (x3 : Int32) (x4 : Int32) (x5 : Int32) (H : Heap) (locs : List Loc) (ls : Array Slot), f_X_isExpression_l8 n xm tn tk tw ns x2 x3 x4 x5 = some o → va_P (dC, dI) vwCl (([(aX, .inr (5, [.ref aM, .ref aY, .int xn, .ref aV])), (aM, .inl (cM, 1024, .inr (.inr (.inr (.inr xm))))), (aT, .inr (2, [.ref aK, .ref aG, .ref aE, .ref aW, .int tn, .int ts])), (aK, .inl (cK, 1024, .inl tk)), (aW, .inl (cW, 1024, .inr (.inl tw)))] : va_W) ++ np cB ns) H → va_D A (([(aX, .inr (5, [.ref aM, .ref aY, .int xn, .ref aV])), (aM, .inl (cM, 1024, .inr (.inr (.inr (.inr xm))))), (aT, .inr (2, [.ref aK, .ref aG, .ref aE, .ref aW, .int tn, .int ts])), (aK, .inl (cK, 1024, .inl tk)), (aW, .inl (cW, 1024, .inr (.inl tw)))] : va_W) ++ np cB ns) → va_S A s.heap H locs → lv_has ls 8 [(0, .ref aX), (1, .ref aT), (2, .int x2), (3, .int x3), (4, .int x4), (5, .int x5)] → W p l e (headSpec (w_X_isExpression) ({ frames := 4, cells := 0, slots := 0, locals := 87 })).room s m [.ref aX, .ref aT, .int p1].toArray below meth c H locs 0 0 Q (F0 m 8 ls []) := by
    intro n
    induction n with
    | zero => intro x2 x3 x4 x5 H locs ls hf; exact absurd hf (by simp [f_X_isExpression_l8])
    | succ n ih =>
      intro x2 x3 x4 x5 H locs ls hf hP hD hS hl
      unfold f_X_isExpression_l8 at hf
      refine lv_iload hx hb d_X_isExpression_8 (lv_at hl 5 rfl) ?_
      refine lv_aload_n hx hb d_X_isExpression_10 rfl (lv_at hl 1 rfl) ?_
      obtain ⟨o_1, hM_1, hf⟩ := bd_some hf
      refine cr_i (va_runV (As := []) (rest := [.int x5]) ⟨hx, hb, hml, hown, hts⟩ (c_T_size l dC dI aT aK aG aE aW  H.size tn ts  o_1 hM_1) (cwV 0 hts (gwV wb_149 wb_151 wb_152 wb_32 wb_150) rfl rfl rfl (by decide +kernel) ⟨Nat.le_of_ble_eq_true rfl, Nat.le_of_ble_eq_true rfl⟩) (pr_V (hP.sub [2] rfl) (hD.sub [2] (by decide) rfl) hK hN [] rfl (ci := 2) rfl rfl rfl) rfl rfl hl.1 rfl (lv_room (Nat.le_of_ble_eq_true rfl)) d_X_isExpression_11 ⟨Nat.zero_le _, Nat.zero_le _⟩) hP hD hS hA (in_of [2] rfl) (fun r_1 H locs hw hP hS => ?_)
      subst r_1
      refine lv_icmp_ge (tgt := 140) hx hb d_X_isExpression_14 (by decide) (fun c_2 => ?_) (fun c_2 => ?_)
      · rw [if_pos c_2] at hf
        refine lv_iload_n hx hb d_X_isExpression_140 rfl (lv_at hl 3 rfl) ?_
        refine lv_if_ne (tgt := 153) hx hb d_X_isExpression_141 (by decide) (fun c_3 => ?_) (fun c_3 => ?_)
        · rw [if_neg c_3] at hf
          refine lv_iconst (v := (0 : Int32)) hx hb d_X_isExpression_153 (by decide) ?_
          have ho := Option.some.inj hf
          have hP9 : va_P (dC, dI) vwCl (([(aX, .inr (5, [.ref aM, .ref aY, .int xn, .ref aV])), (aM, .inl (cM, 1024, .inr (.inr (.inr (.inr xm))))), (aT, .inr (2, [.ref aK, .ref aG, .ref aE, .ref aW, .int tn, .int ts])), (aK, .inl (cK, 1024, .inl tk)), (aW, .inl (cW, 1024, .inr (.inl tw)))] : va_W) ++ np cB ns) H := by exact hP.part (cx := [(aX, .inr (5, [.ref aM, .ref aY, .int xn, .ref aV])), (aM, .inl (cM, 1024, .inr (.inr (.inr (.inr xm))))), (aT, .inr (2, [.ref aK, .ref aG, .ref aE, .ref aW, .int tn, .int ts])), (aK, .inl (cK, 1024, .inl tk)), (aW, .inl (cW, 1024, .inr (.inl tw)))]) [0, 1, 2, 3, 4] rfl
          have hD9 : va_D A (([(aX, .inr (5, [.ref aM, .ref aY, .int xn, .ref aV])), (aM, .inl (cM, 1024, .inr (.inr (.inr (.inr xm))))), (aT, .inr (2, [.ref aK, .ref aG, .ref aE, .ref aW, .int tn, .int ts])), (aK, .inl (cK, 1024, .inl tk)), (aW, .inl (cW, 1024, .inr (.inl tw)))] : va_W) ++ np cB ns) := by exact hD.part (cx := [(aX, .inr (5, [.ref aM, .ref aY, .int xn, .ref aV])), (aM, .inl (cM, 1024, .inr (.inr (.inr (.inr xm))))), (aT, .inr (2, [.ref aK, .ref aG, .ref aE, .ref aW, .int tn, .int ts])), (aK, .inl (cK, 1024, .inl tk)), (aW, .inl (cW, 1024, .inr (.inl tw)))]) [0, 1, 2, 3, 4] (by decide) rfl
          rw [hQ]
          exact W.zret (v := (0 : Int32)) (ty := .boolean) hx hb hr rfl (fun t ht hW => ⟨⟨(0 : Int32), (), rfl, ⟨congrArg (fun z => z) ho, rfl⟩, by rw [ht]; exact hP9, va_K.moved hW.alike hK, hD9⟩, hS.F ht⟩) hS.2.2 d_X_isExpression_154
        · rw [if_pos c_3] at hf
          refine lv_iload hx hb d_X_isExpression_144 (lv_at hl 4 rfl) ?_
          refine lv_if_ne (tgt := 153) hx hb d_X_isExpression_146 (by decide) (fun c_4 => ?_) (fun c_4 => ?_)
          · rw [if_neg c_4] at hf
            refine lv_iconst (v := (0 : Int32)) hx hb d_X_isExpression_153 (by decide) ?_
            have ho := Option.some.inj hf
            have hP9 : va_P (dC, dI) vwCl (([(aX, .inr (5, [.ref aM, .ref aY, .int xn, .ref aV])), (aM, .inl (cM, 1024, .inr (.inr (.inr (.inr xm))))), (aT, .inr (2, [.ref aK, .ref aG, .ref aE, .ref aW, .int tn, .int ts])), (aK, .inl (cK, 1024, .inl tk)), (aW, .inl (cW, 1024, .inr (.inl tw)))] : va_W) ++ np cB ns) H := by exact hP.part (cx := [(aX, .inr (5, [.ref aM, .ref aY, .int xn, .ref aV])), (aM, .inl (cM, 1024, .inr (.inr (.inr (.inr xm))))), (aT, .inr (2, [.ref aK, .ref aG, .ref aE, .ref aW, .int tn, .int ts])), (aK, .inl (cK, 1024, .inl tk)), (aW, .inl (cW, 1024, .inr (.inl tw)))]) [0, 1, 2, 3, 4] rfl
            have hD9 : va_D A (([(aX, .inr (5, [.ref aM, .ref aY, .int xn, .ref aV])), (aM, .inl (cM, 1024, .inr (.inr (.inr (.inr xm))))), (aT, .inr (2, [.ref aK, .ref aG, .ref aE, .ref aW, .int tn, .int ts])), (aK, .inl (cK, 1024, .inl tk)), (aW, .inl (cW, 1024, .inr (.inl tw)))] : va_W) ++ np cB ns) := by exact hD.part (cx := [(aX, .inr (5, [.ref aM, .ref aY, .int xn, .ref aV])), (aM, .inl (cM, 1024, .inr (.inr (.inr (.inr xm))))), (aT, .inr (2, [.ref aK, .ref aG, .ref aE, .ref aW, .int tn, .int ts])), (aK, .inl (cK, 1024, .inl tk)), (aW, .inl (cW, 1024, .inr (.inl tw)))]) [0, 1, 2, 3, 4] (by decide) rfl
            rw [hQ]
            exact W.zret (v := (0 : Int32)) (ty := .boolean) hx hb hr rfl (fun t ht hW => ⟨⟨(0 : Int32), (), rfl, ⟨congrArg (fun z => z) ho, rfl⟩, by rw [ht]; exact hP9, va_K.moved hW.alike hK, hD9⟩, hS.F ht⟩) hS.2.2 d_X_isExpression_154
          · rw [if_pos c_4] at hf
            refine lv_iconst (v := (1 : Int32)) hx hb d_X_isExpression_149 (by decide) ?_
            refine lv_goto (tgt := 154) hx hb d_X_isExpression_150 (by decide) ?_
            have ho := Option.some.inj hf
            have hP9 : va_P (dC, dI) vwCl (([(aX, .inr (5, [.ref aM, .ref aY, .int xn, .ref aV])), (aM, .inl (cM, 1024, .inr (.inr (.inr (.inr xm))))), (aT, .inr (2, [.ref aK, .ref aG, .ref aE, .ref aW, .int tn, .int ts])), (aK, .inl (cK, 1024, .inl tk)), (aW, .inl (cW, 1024, .inr (.inl tw)))] : va_W) ++ np cB ns) H := by exact hP.part (cx := [(aX, .inr (5, [.ref aM, .ref aY, .int xn, .ref aV])), (aM, .inl (cM, 1024, .inr (.inr (.inr (.inr xm))))), (aT, .inr (2, [.ref aK, .ref aG, .ref aE, .ref aW, .int tn, .int ts])), (aK, .inl (cK, 1024, .inl tk)), (aW, .inl (cW, 1024, .inr (.inl tw)))]) [0, 1, 2, 3, 4] rfl
            have hD9 : va_D A (([(aX, .inr (5, [.ref aM, .ref aY, .int xn, .ref aV])), (aM, .inl (cM, 1024, .inr (.inr (.inr (.inr xm))))), (aT, .inr (2, [.ref aK, .ref aG, .ref aE, .ref aW, .int tn, .int ts])), (aK, .inl (cK, 1024, .inl tk)), (aW, .inl (cW, 1024, .inr (.inl tw)))] : va_W) ++ np cB ns) := by exact hD.part (cx := [(aX, .inr (5, [.ref aM, .ref aY, .int xn, .ref aV])), (aM, .inl (cM, 1024, .inr (.inr (.inr (.inr xm))))), (aT, .inr (2, [.ref aK, .ref aG, .ref aE, .ref aW, .int tn, .int ts])), (aK, .inl (cK, 1024, .inl tk)), (aW, .inl (cW, 1024, .inr (.inl tw)))]) [0, 1, 2, 3, 4] (by decide) rfl
            rw [hQ]
            exact W.zret (v := (1 : Int32)) (ty := .boolean) hx hb hr rfl (fun t ht hW => ⟨⟨(1 : Int32), (), rfl, ⟨congrArg (fun z => z) ho, rfl⟩, by rw [ht]; exact hP9, va_K.moved hW.alike hK, hD9⟩, hS.F ht⟩) hS.2.2 d_X_isExpression_154
      · rw [if_neg c_2] at hf
        refine lv_aload_n hx hb d_X_isExpression_17 rfl (lv_at hl 1 rfl) ?_
        refine lv_iload hx hb d_X_isExpression_18 (lv_at hl 5 rfl) ?_
        obtain ⟨o_5, hM_5, hf⟩ := bd_some hf
        refine cr_i (va_runV (As := [.int x5]) (rest := []) ⟨hx, hb, hml, hown, hts⟩ (c_T_signOf l dC dI aT aK aG aE aW cK cW H.size tn ts tk tw x5 o_5 hM_5) (cwV 1 hts (gwV wb_421 wb_423 wb_424 wb_32 wb_422) rfl rfl rfl (by decide +kernel) ⟨Nat.le_of_ble_eq_true rfl, Nat.le_of_ble_eq_true rfl⟩) (pr_V (hP.sub [2, 3, 4] rfl) (hD.sub [2, 3, 4] (by decide) rfl) hK hN [1, 2] rfl (ci := 2) rfl rfl rfl) rfl rfl hl.1 rfl (lv_room (Nat.le_of_ble_eq_true rfl)) d_X_isExpression_20 ⟨Nat.zero_le _, Nat.zero_le _⟩) hP hD hS hA (in_of [2, 3, 4] rfl) (fun r_5 H locs hw hP hS => ?_)
        subst r_5
        refine lv_istore (lv' := [(6, .int o_5), (0, .ref aX), (1, .ref aT), (2, .int x2), (3, .int x3), (4, .int x4), (5, .int x5)]) hx hb d_X_isExpression_23 hl (by decide) rfl (fun ls hl => ?_)
        refine lv_iload_n hx hb d_X_isExpression_25 rfl (lv_at hl 4 rfl) ?_
        refine lv_if_eq (tgt := 86) hx hb d_X_isExpression_26 (by decide) (fun c_6 => ?_) (fun c_6 => ?_)
        · rw [if_pos c_6] at hf
          refine lv_iload hx hb d_X_isExpression_86 (lv_at hl 0 rfl) ?_
          refine lv_bipush (v := (41 : Int32)) hx hb d_X_isExpression_88 (by decide) ?_
          refine lv_icmp_ne (tgt := 103) hx hb d_X_isExpression_90 (by decide) (fun c_7 => ?_) (fun c_7 => ?_)
          · rw [if_neg c_7] at hf
            refine lv_iload_n hx hb d_X_isExpression_103 rfl (lv_at hl 3 rfl) ?_
            refine lv_if_eq (tgt := 117) hx hb d_X_isExpression_104 (by decide) (fun c_8 => ?_) (fun c_8 => ?_)
            · rw [if_pos c_8] at hf
              refine lv_iconst (v := (1 : Int32)) hx hb d_X_isExpression_117 (by decide) ?_
              refine lv_istore (lv' := [(7, .int (1 : Int32)), (6, .int o_5), (0, .ref aX), (1, .ref aT), (2, .int x2), (3, .int x3), (4, .int x4), (5, .int x5)]) hx hb d_X_isExpression_118 hl (by decide) rfl (fun ls hl => ?_)
              refine lv_iload hx hb d_X_isExpression_120 (lv_at hl 1 rfl) ?_
              obtain ⟨o_9, hM_9, hf⟩ := bd_some hf
              refine cr_i (va_runS (As := [.int o_5]) (rest := []) ⟨hx, hb, hml, hown, hts⟩ (c_X_rankOf l dC dI   H.size  o_5 o_9 hM_9) (va_cwS 1 hts (gwS wb_161 wb_163 wb_158 wb_162) rfl rfl rfl (by decide +kernel) ⟨Nat.le_of_ble_eq_true rfl, Nat.le_of_ble_eq_true rfl⟩) (pr_S (hP.sub [] rfl) (hD.sub [] (by decide) rfl) hK hN [] rfl) rfl rfl hl.1 rfl (lv_room (Nat.le_of_ble_eq_true rfl)) d_X_isExpression_122 ⟨Nat.zero_le _, Nat.zero_le _⟩) hP hD hS hA (in_of [] rfl) (fun r_9 H locs hw hP hS => ?_)
              subst r_9
              refine lv_iload hx hb d_X_isExpression_125 (lv_at hl 0 rfl) ?_
              refine lv_icmp_ge (tgt := 132) hx hb d_X_isExpression_127 (by decide) (fun c_10 => ?_) (fun c_10 => ?_)
              · rw [if_pos c_10] at hf
                refine lv_iconst (v := (1 : Int32)) hx hb d_X_isExpression_132 (by decide) ?_
                refine lv_istore_n (lv' := [(3, .int (1 : Int32)), (7, .int (1 : Int32)), (6, .int o_5), (0, .ref aX), (1, .ref aT), (2, .int x2), (4, .int x4), (5, .int x5)]) hx hb d_X_isExpression_133 rfl hl (by decide) rfl (fun ls hl => ?_)
                refine lv_iinc (v := x5 + (1 : Int32)) (lv' := [(5, .int (x5 + (1 : Int32))), (3, .int (1 : Int32)), (7, .int (1 : Int32)), (6, .int o_5), (0, .ref aX), (1, .ref aT), (2, .int x2), (4, .int x4)]) hx hb d_X_isExpression_134 hl (k := 7) rfl rfl (by decide) rfl (fun ls hl => ?_)
                refine lv_goto (tgt := 8) hx hb d_X_isExpression_137 (by decide) ?_
                exact ih x2 (1 : Int32) x4 (x5 + (1 : Int32)) H locs ls hf (hP.part (cx := [(aX, .inr (5, [.ref aM, .ref aY, .int xn, .ref aV])), (aM, .inl (cM, 1024, .inr (.inr (.inr (.inr xm))))), (aT, .inr (2, [.ref aK, .ref aG, .ref aE, .ref aW, .int tn, .int ts])), (aK, .inl (cK, 1024, .inl tk)), (aW, .inl (cW, 1024, .inr (.inl tw)))]) [0, 1, 2, 3, 4] rfl) (hD.part (cx := [(aX, .inr (5, [.ref aM, .ref aY, .int xn, .ref aV])), (aM, .inl (cM, 1024, .inr (.inr (.inr (.inr xm))))), (aT, .inr (2, [.ref aK, .ref aG, .ref aE, .ref aW, .int tn, .int ts])), (aK, .inl (cK, 1024, .inl tk)), (aW, .inl (cW, 1024, .inr (.inl tw)))]) [0, 1, 2, 3, 4] (by decide) rfl) hS (lv_sub hl [4, 5, 6, 1, 7, 0] rfl)
              · rw [if_neg c_10] at hf
                refine lv_iconst (v := (0 : Int32)) hx hb d_X_isExpression_130 (by decide) ?_
                have ho := Option.some.inj hf
                have hP9 : va_P (dC, dI) vwCl (([(aX, .inr (5, [.ref aM, .ref aY, .int xn, .ref aV])), (aM, .inl (cM, 1024, .inr (.inr (.inr (.inr xm))))), (aT, .inr (2, [.ref aK, .ref aG, .ref aE, .ref aW, .int tn, .int ts])), (aK, .inl (cK, 1024, .inl tk)), (aW, .inl (cW, 1024, .inr (.inl tw)))] : va_W) ++ np cB ns) H := by exact hP.part (cx := [(aX, .inr (5, [.ref aM, .ref aY, .int xn, .ref aV])), (aM, .inl (cM, 1024, .inr (.inr (.inr (.inr xm))))), (aT, .inr (2, [.ref aK, .ref aG, .ref aE, .ref aW, .int tn, .int ts])), (aK, .inl (cK, 1024, .inl tk)), (aW, .inl (cW, 1024, .inr (.inl tw)))]) [0, 1, 2, 3, 4] rfl
                have hD9 : va_D A (([(aX, .inr (5, [.ref aM, .ref aY, .int xn, .ref aV])), (aM, .inl (cM, 1024, .inr (.inr (.inr (.inr xm))))), (aT, .inr (2, [.ref aK, .ref aG, .ref aE, .ref aW, .int tn, .int ts])), (aK, .inl (cK, 1024, .inl tk)), (aW, .inl (cW, 1024, .inr (.inl tw)))] : va_W) ++ np cB ns) := by exact hD.part (cx := [(aX, .inr (5, [.ref aM, .ref aY, .int xn, .ref aV])), (aM, .inl (cM, 1024, .inr (.inr (.inr (.inr xm))))), (aT, .inr (2, [.ref aK, .ref aG, .ref aE, .ref aW, .int tn, .int ts])), (aK, .inl (cK, 1024, .inl tk)), (aW, .inl (cW, 1024, .inr (.inl tw)))]) [0, 1, 2, 3, 4] (by decide) rfl
                rw [hQ]
                exact W.zret (v := (0 : Int32)) (ty := .boolean) hx hb hr rfl (fun t ht hW => ⟨⟨(0 : Int32), (), rfl, ⟨congrArg (fun z => z) ho, rfl⟩, by rw [ht]; exact hP9, va_K.moved hW.alike hK, hD9⟩, hS.F ht⟩) hS.2.2 d_X_isExpression_131
            · rw [if_neg c_8] at hf
              refine lv_iload hx hb d_X_isExpression_107 (lv_at hl 5 rfl) ?_
              refine lv_if_ne (tgt := 117) hx hb d_X_isExpression_109 (by decide) (fun c_11 => ?_) (fun c_11 => ?_)
              · rw [if_neg c_11] at hf
                refine lv_iconst (v := (1 : Int32)) hx hb d_X_isExpression_117 (by decide) ?_
                refine lv_istore (lv' := [(7, .int (1 : Int32)), (6, .int o_5), (0, .ref aX), (1, .ref aT), (2, .int x2), (3, .int x3), (4, .int x4), (5, .int x5)]) hx hb d_X_isExpression_118 hl (by decide) rfl (fun ls hl => ?_)
                refine lv_iload hx hb d_X_isExpression_120 (lv_at hl 1 rfl) ?_
                obtain ⟨o_12, hM_12, hf⟩ := bd_some hf
                refine cr_i (va_runS (As := [.int o_5]) (rest := []) ⟨hx, hb, hml, hown, hts⟩ (c_X_rankOf l dC dI   H.size  o_5 o_12 hM_12) (va_cwS 1 hts (gwS wb_161 wb_163 wb_158 wb_162) rfl rfl rfl (by decide +kernel) ⟨Nat.le_of_ble_eq_true rfl, Nat.le_of_ble_eq_true rfl⟩) (pr_S (hP.sub [] rfl) (hD.sub [] (by decide) rfl) hK hN [] rfl) rfl rfl hl.1 rfl (lv_room (Nat.le_of_ble_eq_true rfl)) d_X_isExpression_122 ⟨Nat.zero_le _, Nat.zero_le _⟩) hP hD hS hA (in_of [] rfl) (fun r_12 H locs hw hP hS => ?_)
                subst r_12
                refine lv_iload hx hb d_X_isExpression_125 (lv_at hl 0 rfl) ?_
                refine lv_icmp_ge (tgt := 132) hx hb d_X_isExpression_127 (by decide) (fun c_13 => ?_) (fun c_13 => ?_)
                · rw [if_pos c_13] at hf
                  refine lv_iconst (v := (1 : Int32)) hx hb d_X_isExpression_132 (by decide) ?_
                  refine lv_istore_n (lv' := [(3, .int (1 : Int32)), (7, .int (1 : Int32)), (6, .int o_5), (0, .ref aX), (1, .ref aT), (2, .int x2), (4, .int x4), (5, .int x5)]) hx hb d_X_isExpression_133 rfl hl (by decide) rfl (fun ls hl => ?_)
                  refine lv_iinc (v := x5 + (1 : Int32)) (lv' := [(5, .int (x5 + (1 : Int32))), (3, .int (1 : Int32)), (7, .int (1 : Int32)), (6, .int o_5), (0, .ref aX), (1, .ref aT), (2, .int x2), (4, .int x4)]) hx hb d_X_isExpression_134 hl (k := 7) rfl rfl (by decide) rfl (fun ls hl => ?_)
                  refine lv_goto (tgt := 8) hx hb d_X_isExpression_137 (by decide) ?_
                  exact ih x2 (1 : Int32) x4 (x5 + (1 : Int32)) H locs ls hf (hP.part (cx := [(aX, .inr (5, [.ref aM, .ref aY, .int xn, .ref aV])), (aM, .inl (cM, 1024, .inr (.inr (.inr (.inr xm))))), (aT, .inr (2, [.ref aK, .ref aG, .ref aE, .ref aW, .int tn, .int ts])), (aK, .inl (cK, 1024, .inl tk)), (aW, .inl (cW, 1024, .inr (.inl tw)))]) [0, 1, 2, 3, 4] rfl) (hD.part (cx := [(aX, .inr (5, [.ref aM, .ref aY, .int xn, .ref aV])), (aM, .inl (cM, 1024, .inr (.inr (.inr (.inr xm))))), (aT, .inr (2, [.ref aK, .ref aG, .ref aE, .ref aW, .int tn, .int ts])), (aK, .inl (cK, 1024, .inl tk)), (aW, .inl (cW, 1024, .inr (.inl tw)))]) [0, 1, 2, 3, 4] (by decide) rfl) hS (lv_sub hl [4, 5, 6, 1, 7, 0] rfl)
                · rw [if_neg c_13] at hf
                  refine lv_iconst (v := (0 : Int32)) hx hb d_X_isExpression_130 (by decide) ?_
                  have ho := Option.some.inj hf
                  have hP9 : va_P (dC, dI) vwCl (([(aX, .inr (5, [.ref aM, .ref aY, .int xn, .ref aV])), (aM, .inl (cM, 1024, .inr (.inr (.inr (.inr xm))))), (aT, .inr (2, [.ref aK, .ref aG, .ref aE, .ref aW, .int tn, .int ts])), (aK, .inl (cK, 1024, .inl tk)), (aW, .inl (cW, 1024, .inr (.inl tw)))] : va_W) ++ np cB ns) H := by exact hP.part (cx := [(aX, .inr (5, [.ref aM, .ref aY, .int xn, .ref aV])), (aM, .inl (cM, 1024, .inr (.inr (.inr (.inr xm))))), (aT, .inr (2, [.ref aK, .ref aG, .ref aE, .ref aW, .int tn, .int ts])), (aK, .inl (cK, 1024, .inl tk)), (aW, .inl (cW, 1024, .inr (.inl tw)))]) [0, 1, 2, 3, 4] rfl
                  have hD9 : va_D A (([(aX, .inr (5, [.ref aM, .ref aY, .int xn, .ref aV])), (aM, .inl (cM, 1024, .inr (.inr (.inr (.inr xm))))), (aT, .inr (2, [.ref aK, .ref aG, .ref aE, .ref aW, .int tn, .int ts])), (aK, .inl (cK, 1024, .inl tk)), (aW, .inl (cW, 1024, .inr (.inl tw)))] : va_W) ++ np cB ns) := by exact hD.part (cx := [(aX, .inr (5, [.ref aM, .ref aY, .int xn, .ref aV])), (aM, .inl (cM, 1024, .inr (.inr (.inr (.inr xm))))), (aT, .inr (2, [.ref aK, .ref aG, .ref aE, .ref aW, .int tn, .int ts])), (aK, .inl (cK, 1024, .inl tk)), (aW, .inl (cW, 1024, .inr (.inl tw)))]) [0, 1, 2, 3, 4] (by decide) rfl
                  rw [hQ]
                  exact W.zret (v := (0 : Int32)) (ty := .boolean) hx hb hr rfl (fun t ht hW => ⟨⟨(0 : Int32), (), rfl, ⟨congrArg (fun z => z) ho, rfl⟩, by rw [ht]; exact hP9, va_K.moved hW.alike hK, hD9⟩, hS.F ht⟩) hS.2.2 d_X_isExpression_131
              · rw [if_pos c_11] at hf
                refine lv_bipush (v := (6 : Int32)) hx hb d_X_isExpression_112 (by decide) ?_
                refine lv_goto (tgt := 118) hx hb d_X_isExpression_114 (by decide) ?_
                refine lv_istore (lv' := [(7, .int (6 : Int32)), (6, .int o_5), (0, .ref aX), (1, .ref aT), (2, .int x2), (3, .int x3), (4, .int x4), (5, .int x5)]) hx hb d_X_isExpression_118 hl (by decide) rfl (fun ls hl => ?_)
                refine lv_iload hx hb d_X_isExpression_120 (lv_at hl 1 rfl) ?_
                obtain ⟨o_14, hM_14, hf⟩ := bd_some hf
                refine cr_i (va_runS (As := [.int o_5]) (rest := []) ⟨hx, hb, hml, hown, hts⟩ (c_X_rankOf l dC dI   H.size  o_5 o_14 hM_14) (va_cwS 1 hts (gwS wb_161 wb_163 wb_158 wb_162) rfl rfl rfl (by decide +kernel) ⟨Nat.le_of_ble_eq_true rfl, Nat.le_of_ble_eq_true rfl⟩) (pr_S (hP.sub [] rfl) (hD.sub [] (by decide) rfl) hK hN [] rfl) rfl rfl hl.1 rfl (lv_room (Nat.le_of_ble_eq_true rfl)) d_X_isExpression_122 ⟨Nat.zero_le _, Nat.zero_le _⟩) hP hD hS hA (in_of [] rfl) (fun r_14 H locs hw hP hS => ?_)
                subst r_14
                refine lv_iload hx hb d_X_isExpression_125 (lv_at hl 0 rfl) ?_
                refine lv_icmp_ge (tgt := 132) hx hb d_X_isExpression_127 (by decide) (fun c_15 => ?_) (fun c_15 => ?_)
                · rw [if_pos c_15] at hf
                  refine lv_iconst (v := (1 : Int32)) hx hb d_X_isExpression_132 (by decide) ?_
                  refine lv_istore_n (lv' := [(3, .int (1 : Int32)), (7, .int (6 : Int32)), (6, .int o_5), (0, .ref aX), (1, .ref aT), (2, .int x2), (4, .int x4), (5, .int x5)]) hx hb d_X_isExpression_133 rfl hl (by decide) rfl (fun ls hl => ?_)
                  refine lv_iinc (v := x5 + (1 : Int32)) (lv' := [(5, .int (x5 + (1 : Int32))), (3, .int (1 : Int32)), (7, .int (6 : Int32)), (6, .int o_5), (0, .ref aX), (1, .ref aT), (2, .int x2), (4, .int x4)]) hx hb d_X_isExpression_134 hl (k := 7) rfl rfl (by decide) rfl (fun ls hl => ?_)
                  refine lv_goto (tgt := 8) hx hb d_X_isExpression_137 (by decide) ?_
                  exact ih x2 (1 : Int32) x4 (x5 + (1 : Int32)) H locs ls hf (hP.part (cx := [(aX, .inr (5, [.ref aM, .ref aY, .int xn, .ref aV])), (aM, .inl (cM, 1024, .inr (.inr (.inr (.inr xm))))), (aT, .inr (2, [.ref aK, .ref aG, .ref aE, .ref aW, .int tn, .int ts])), (aK, .inl (cK, 1024, .inl tk)), (aW, .inl (cW, 1024, .inr (.inl tw)))]) [0, 1, 2, 3, 4] rfl) (hD.part (cx := [(aX, .inr (5, [.ref aM, .ref aY, .int xn, .ref aV])), (aM, .inl (cM, 1024, .inr (.inr (.inr (.inr xm))))), (aT, .inr (2, [.ref aK, .ref aG, .ref aE, .ref aW, .int tn, .int ts])), (aK, .inl (cK, 1024, .inl tk)), (aW, .inl (cW, 1024, .inr (.inl tw)))]) [0, 1, 2, 3, 4] (by decide) rfl) hS (lv_sub hl [4, 5, 6, 1, 7, 0] rfl)
                · rw [if_neg c_15] at hf
                  refine lv_iconst (v := (0 : Int32)) hx hb d_X_isExpression_130 (by decide) ?_
                  have ho := Option.some.inj hf
                  have hP9 : va_P (dC, dI) vwCl (([(aX, .inr (5, [.ref aM, .ref aY, .int xn, .ref aV])), (aM, .inl (cM, 1024, .inr (.inr (.inr (.inr xm))))), (aT, .inr (2, [.ref aK, .ref aG, .ref aE, .ref aW, .int tn, .int ts])), (aK, .inl (cK, 1024, .inl tk)), (aW, .inl (cW, 1024, .inr (.inl tw)))] : va_W) ++ np cB ns) H := by exact hP.part (cx := [(aX, .inr (5, [.ref aM, .ref aY, .int xn, .ref aV])), (aM, .inl (cM, 1024, .inr (.inr (.inr (.inr xm))))), (aT, .inr (2, [.ref aK, .ref aG, .ref aE, .ref aW, .int tn, .int ts])), (aK, .inl (cK, 1024, .inl tk)), (aW, .inl (cW, 1024, .inr (.inl tw)))]) [0, 1, 2, 3, 4] rfl
                  have hD9 : va_D A (([(aX, .inr (5, [.ref aM, .ref aY, .int xn, .ref aV])), (aM, .inl (cM, 1024, .inr (.inr (.inr (.inr xm))))), (aT, .inr (2, [.ref aK, .ref aG, .ref aE, .ref aW, .int tn, .int ts])), (aK, .inl (cK, 1024, .inl tk)), (aW, .inl (cW, 1024, .inr (.inl tw)))] : va_W) ++ np cB ns) := by exact hD.part (cx := [(aX, .inr (5, [.ref aM, .ref aY, .int xn, .ref aV])), (aM, .inl (cM, 1024, .inr (.inr (.inr (.inr xm))))), (aT, .inr (2, [.ref aK, .ref aG, .ref aE, .ref aW, .int tn, .int ts])), (aK, .inl (cK, 1024, .inl tk)), (aW, .inl (cW, 1024, .inr (.inl tw)))]) [0, 1, 2, 3, 4] (by decide) rfl
                  rw [hQ]
                  exact W.zret (v := (0 : Int32)) (ty := .boolean) hx hb hr rfl (fun t ht hW => ⟨⟨(0 : Int32), (), rfl, ⟨congrArg (fun z => z) ho, rfl⟩, by rw [ht]; exact hP9, va_K.moved hW.alike hK, hD9⟩, hS.F ht⟩) hS.2.2 d_X_isExpression_131
          · rw [if_pos c_7] at hf
            refine lv_iinc (v := x4 + (-1 : Int32)) (lv' := [(4, .int (x4 + (-1 : Int32))), (6, .int o_5), (0, .ref aX), (1, .ref aT), (2, .int x2), (3, .int x3), (5, .int x5)]) hx hb d_X_isExpression_93 hl (k := 5) rfl rfl (by decide) rfl (fun ls hl => ?_)
            refine lv_iload hx hb d_X_isExpression_96 (lv_at hl 0 rfl) ?_
            refine lv_if_ge (tgt := 134) hx hb d_X_isExpression_98 (by decide) (fun c_16 => ?_) (fun c_16 => ?_)
            · rw [if_pos c_16] at hf
              refine lv_iinc (v := x5 + (1 : Int32)) (lv' := [(5, .int (x5 + (1 : Int32))), (4, .int (x4 + (-1 : Int32))), (6, .int o_5), (0, .ref aX), (1, .ref aT), (2, .int x2), (3, .int x3)]) hx hb d_X_isExpression_134 hl (k := 6) rfl rfl (by decide) rfl (fun ls hl => ?_)
              refine lv_goto (tgt := 8) hx hb d_X_isExpression_137 (by decide) ?_
              exact ih x2 x3 (x4 + (-1 : Int32)) (x5 + (1 : Int32)) H locs ls hf (hP.part (cx := [(aX, .inr (5, [.ref aM, .ref aY, .int xn, .ref aV])), (aM, .inl (cM, 1024, .inr (.inr (.inr (.inr xm))))), (aT, .inr (2, [.ref aK, .ref aG, .ref aE, .ref aW, .int tn, .int ts])), (aK, .inl (cK, 1024, .inl tk)), (aW, .inl (cW, 1024, .inr (.inl tw)))]) [0, 1, 2, 3, 4] rfl) (hD.part (cx := [(aX, .inr (5, [.ref aM, .ref aY, .int xn, .ref aV])), (aM, .inl (cM, 1024, .inr (.inr (.inr (.inr xm))))), (aT, .inr (2, [.ref aK, .ref aG, .ref aE, .ref aW, .int tn, .int ts])), (aK, .inl (cK, 1024, .inl tk)), (aW, .inl (cW, 1024, .inr (.inl tw)))]) [0, 1, 2, 3, 4] (by decide) rfl) hS (lv_sub hl [3, 4, 5, 6, 1, 0] rfl)
            · rw [if_neg c_16] at hf
              refine lv_iconst (v := (0 : Int32)) hx hb d_X_isExpression_101 (by decide) ?_
              have ho := Option.some.inj hf
              have hP9 : va_P (dC, dI) vwCl (([(aX, .inr (5, [.ref aM, .ref aY, .int xn, .ref aV])), (aM, .inl (cM, 1024, .inr (.inr (.inr (.inr xm))))), (aT, .inr (2, [.ref aK, .ref aG, .ref aE, .ref aW, .int tn, .int ts])), (aK, .inl (cK, 1024, .inl tk)), (aW, .inl (cW, 1024, .inr (.inl tw)))] : va_W) ++ np cB ns) H := by exact hP.part (cx := [(aX, .inr (5, [.ref aM, .ref aY, .int xn, .ref aV])), (aM, .inl (cM, 1024, .inr (.inr (.inr (.inr xm))))), (aT, .inr (2, [.ref aK, .ref aG, .ref aE, .ref aW, .int tn, .int ts])), (aK, .inl (cK, 1024, .inl tk)), (aW, .inl (cW, 1024, .inr (.inl tw)))]) [0, 1, 2, 3, 4] rfl
              have hD9 : va_D A (([(aX, .inr (5, [.ref aM, .ref aY, .int xn, .ref aV])), (aM, .inl (cM, 1024, .inr (.inr (.inr (.inr xm))))), (aT, .inr (2, [.ref aK, .ref aG, .ref aE, .ref aW, .int tn, .int ts])), (aK, .inl (cK, 1024, .inl tk)), (aW, .inl (cW, 1024, .inr (.inl tw)))] : va_W) ++ np cB ns) := by exact hD.part (cx := [(aX, .inr (5, [.ref aM, .ref aY, .int xn, .ref aV])), (aM, .inl (cM, 1024, .inr (.inr (.inr (.inr xm))))), (aT, .inr (2, [.ref aK, .ref aG, .ref aE, .ref aW, .int tn, .int ts])), (aK, .inl (cK, 1024, .inl tk)), (aW, .inl (cW, 1024, .inr (.inl tw)))]) [0, 1, 2, 3, 4] (by decide) rfl
              rw [hQ]
              exact W.zret (v := (0 : Int32)) (ty := .boolean) hx hb hr rfl (fun t ht hW => ⟨⟨(0 : Int32), (), rfl, ⟨congrArg (fun z => z) ho, rfl⟩, by rw [ht]; exact hP9, va_K.moved hW.alike hK, hD9⟩, hS.F ht⟩) hS.2.2 d_X_isExpression_102
        · rw [if_neg c_6] at hf
          refine lv_aload_n hx hb d_X_isExpression_29 rfl (lv_at hl 1 rfl) ?_
          refine lv_aload_n hx hb d_X_isExpression_30 rfl (lv_at hl 2 rfl) ?_
          refine lv_iload hx hb d_X_isExpression_31 (lv_at hl 6 rfl) ?_
          obtain ⟨o_17, hM_17, hf⟩ := bd_some hf
          refine cr_i (va_runV (As := [.ref aT, .int x5]) (rest := []) ⟨hx, hb, hml, hown, hts⟩ (c_X_isOperand l dC dI aX aM aY aV aC aP aO aT aK aG aE aW cM cK cW cB H.size xn xm tn ts tk tw ns x5 o_17 hM_17) (cwV 2 hts (gwV wb_425 wb_427 wb_428 wb_158 wb_426) rfl rfl rfl (by decide +kernel) ⟨Nat.le_of_ble_eq_true rfl, Nat.le_of_ble_eq_true rfl⟩) (pr_V (hP.part [0, 1, 2, 3, 4] rfl) (hD.part [0, 1, 2, 3, 4] (by decide) rfl) hK hN [0, 1, 2, 3] rfl (ci := 5) rfl rfl rfl) rfl rfl hl.1 rfl (lv_room (Nat.le_of_ble_eq_true rfl)) d_X_isExpression_33 ⟨Nat.zero_le _, Nat.zero_le _⟩) hP hD hS hA (in_pool [0, 1, 2, 3, 4] rfl) (fun r_17 H locs hw hP hS => ?_)
          obtain ⟨hw, hz_17⟩ := hw
          subst r_17
          refine lv_if_ne (tgt := 43) hx hb d_X_isExpression_36 (by decide) (fun c_18 => ?_) (fun c_18 => ?_)
          · rw [if_neg c_18] at hf
            refine lv_iconst (v := (0 : Int32)) hx hb d_X_isExpression_43 (by decide) ?_
            refine lv_istore_n (lv' := [(3, .int (0 : Int32)), (6, .int o_5), (0, .ref aX), (1, .ref aT), (2, .int x2), (4, .int x4), (5, .int x5)]) hx hb d_X_isExpression_44 rfl hl (by decide) rfl (fun ls hl => ?_)
            refine lv_iload_n hx hb d_X_isExpression_45 rfl (lv_at hl 0 rfl) ?_
            refine lv_if_eq (tgt := 66) hx hb d_X_isExpression_46 (by decide) (fun c_19 => ?_) (fun c_19 => ?_)
            · rw [if_pos c_19] at hf
              refine lv_iload hx hb d_X_isExpression_66 (lv_at hl 5 rfl) ?_
              refine lv_iload hx hb d_X_isExpression_68 (lv_at hl 1 rfl) ?_
              refine lv_bipush (v := (40 : Int32)) hx hb d_X_isExpression_70 (by decide) ?_
              refine lv_icmp_ne (tgt := 79) hx hb d_X_isExpression_72 (by decide) (fun c_20 => ?_) (fun c_20 => ?_)
              · rw [if_neg c_20] at hf
                refine lv_iconst (v := (0 : Int32)) hx hb d_X_isExpression_79 (by decide) ?_
                refine lv_iadd hx hb d_X_isExpression_80 ?_
                refine lv_istore (lv' := [(4, .int (x4 + (0 : Int32))), (3, .int (0 : Int32)), (6, .int o_5), (0, .ref aX), (1, .ref aT), (2, .int x2), (5, .int x5)]) hx hb d_X_isExpression_81 hl (by decide) rfl (fun ls hl => ?_)
                refine lv_goto (tgt := 134) hx hb d_X_isExpression_83 (by decide) ?_
                refine lv_iinc (v := x5 + (1 : Int32)) (lv' := [(5, .int (x5 + (1 : Int32))), (4, .int (x4 + (0 : Int32))), (3, .int (0 : Int32)), (6, .int o_5), (0, .ref aX), (1, .ref aT), (2, .int x2)]) hx hb d_X_isExpression_134 hl (k := 6) rfl rfl (by decide) rfl (fun ls hl => ?_)
                refine lv_goto (tgt := 8) hx hb d_X_isExpression_137 (by decide) ?_
                exact ih x2 (0 : Int32) (x4 + (0 : Int32)) (x5 + (1 : Int32)) H locs ls hf (hP.part (cx := [(aX, .inr (5, [.ref aM, .ref aY, .int xn, .ref aV])), (aM, .inl (cM, 1024, .inr (.inr (.inr (.inr xm))))), (aT, .inr (2, [.ref aK, .ref aG, .ref aE, .ref aW, .int tn, .int ts])), (aK, .inl (cK, 1024, .inl tk)), (aW, .inl (cW, 1024, .inr (.inl tw)))]) [0, 1, 2, 3, 4] rfl) (hD.part (cx := [(aX, .inr (5, [.ref aM, .ref aY, .int xn, .ref aV])), (aM, .inl (cM, 1024, .inr (.inr (.inr (.inr xm))))), (aT, .inr (2, [.ref aK, .ref aG, .ref aE, .ref aW, .int tn, .int ts])), (aK, .inl (cK, 1024, .inl tk)), (aW, .inl (cW, 1024, .inr (.inl tw)))]) [0, 1, 2, 3, 4] (by decide) rfl) hS (lv_sub hl [4, 5, 6, 2, 1, 0] rfl)
              · rw [if_pos c_20] at hf
                refine lv_iconst (v := (1 : Int32)) hx hb d_X_isExpression_75 (by decide) ?_
                refine lv_goto (tgt := 80) hx hb d_X_isExpression_76 (by decide) ?_
                refine lv_iadd hx hb d_X_isExpression_80 ?_
                refine lv_istore (lv' := [(4, .int (x4 + (1 : Int32))), (3, .int (0 : Int32)), (6, .int o_5), (0, .ref aX), (1, .ref aT), (2, .int x2), (5, .int x5)]) hx hb d_X_isExpression_81 hl (by decide) rfl (fun ls hl => ?_)
                refine lv_goto (tgt := 134) hx hb d_X_isExpression_83 (by decide) ?_
                refine lv_iinc (v := x5 + (1 : Int32)) (lv' := [(5, .int (x5 + (1 : Int32))), (4, .int (x4 + (1 : Int32))), (3, .int (0 : Int32)), (6, .int o_5), (0, .ref aX), (1, .ref aT), (2, .int x2)]) hx hb d_X_isExpression_134 hl (k := 6) rfl rfl (by decide) rfl (fun ls hl => ?_)
                refine lv_goto (tgt := 8) hx hb d_X_isExpression_137 (by decide) ?_
                exact ih x2 (0 : Int32) (x4 + (1 : Int32)) (x5 + (1 : Int32)) H locs ls hf (hP.part (cx := [(aX, .inr (5, [.ref aM, .ref aY, .int xn, .ref aV])), (aM, .inl (cM, 1024, .inr (.inr (.inr (.inr xm))))), (aT, .inr (2, [.ref aK, .ref aG, .ref aE, .ref aW, .int tn, .int ts])), (aK, .inl (cK, 1024, .inl tk)), (aW, .inl (cW, 1024, .inr (.inl tw)))]) [0, 1, 2, 3, 4] rfl) (hD.part (cx := [(aX, .inr (5, [.ref aM, .ref aY, .int xn, .ref aV])), (aM, .inl (cM, 1024, .inr (.inr (.inr (.inr xm))))), (aT, .inr (2, [.ref aK, .ref aG, .ref aE, .ref aW, .int tn, .int ts])), (aK, .inl (cK, 1024, .inl tk)), (aW, .inl (cW, 1024, .inr (.inl tw)))]) [0, 1, 2, 3, 4] (by decide) rfl) hS (lv_sub hl [4, 5, 6, 2, 1, 0] rfl)
            · rw [if_neg c_19] at hf
              refine lv_iload hx hb d_X_isExpression_49 (lv_at hl 1 rfl) ?_
              refine lv_bipush (v := (40 : Int32)) hx hb d_X_isExpression_51 (by decide) ?_
              refine lv_icmp_eq (tgt := 66) hx hb d_X_isExpression_53 (by decide) (fun c_21 => ?_) (fun c_21 => ?_)
              · rw [if_pos c_21] at hf
                refine lv_iload hx hb d_X_isExpression_66 (lv_at hl 5 rfl) ?_
                refine lv_iload hx hb d_X_isExpression_68 (lv_at hl 1 rfl) ?_
                refine lv_bipush (v := (40 : Int32)) hx hb d_X_isExpression_70 (by decide) ?_
                refine lv_icmp_ne (tgt := 79) hx hb d_X_isExpression_72 (by decide) (fun c_22 => ?_) (fun c_22 => ?_)
                · rw [if_neg c_22] at hf
                  refine lv_iconst (v := (0 : Int32)) hx hb d_X_isExpression_79 (by decide) ?_
                  refine lv_iadd hx hb d_X_isExpression_80 ?_
                  refine lv_istore (lv' := [(4, .int (x4 + (0 : Int32))), (3, .int (0 : Int32)), (6, .int o_5), (0, .ref aX), (1, .ref aT), (2, .int x2), (5, .int x5)]) hx hb d_X_isExpression_81 hl (by decide) rfl (fun ls hl => ?_)
                  refine lv_goto (tgt := 134) hx hb d_X_isExpression_83 (by decide) ?_
                  refine lv_iinc (v := x5 + (1 : Int32)) (lv' := [(5, .int (x5 + (1 : Int32))), (4, .int (x4 + (0 : Int32))), (3, .int (0 : Int32)), (6, .int o_5), (0, .ref aX), (1, .ref aT), (2, .int x2)]) hx hb d_X_isExpression_134 hl (k := 6) rfl rfl (by decide) rfl (fun ls hl => ?_)
                  refine lv_goto (tgt := 8) hx hb d_X_isExpression_137 (by decide) ?_
                  exact ih x2 (0 : Int32) (x4 + (0 : Int32)) (x5 + (1 : Int32)) H locs ls hf (hP.part (cx := [(aX, .inr (5, [.ref aM, .ref aY, .int xn, .ref aV])), (aM, .inl (cM, 1024, .inr (.inr (.inr (.inr xm))))), (aT, .inr (2, [.ref aK, .ref aG, .ref aE, .ref aW, .int tn, .int ts])), (aK, .inl (cK, 1024, .inl tk)), (aW, .inl (cW, 1024, .inr (.inl tw)))]) [0, 1, 2, 3, 4] rfl) (hD.part (cx := [(aX, .inr (5, [.ref aM, .ref aY, .int xn, .ref aV])), (aM, .inl (cM, 1024, .inr (.inr (.inr (.inr xm))))), (aT, .inr (2, [.ref aK, .ref aG, .ref aE, .ref aW, .int tn, .int ts])), (aK, .inl (cK, 1024, .inl tk)), (aW, .inl (cW, 1024, .inr (.inl tw)))]) [0, 1, 2, 3, 4] (by decide) rfl) hS (lv_sub hl [4, 5, 6, 2, 1, 0] rfl)
                · rw [if_pos c_22] at hf
                  refine lv_iconst (v := (1 : Int32)) hx hb d_X_isExpression_75 (by decide) ?_
                  refine lv_goto (tgt := 80) hx hb d_X_isExpression_76 (by decide) ?_
                  refine lv_iadd hx hb d_X_isExpression_80 ?_
                  refine lv_istore (lv' := [(4, .int (x4 + (1 : Int32))), (3, .int (0 : Int32)), (6, .int o_5), (0, .ref aX), (1, .ref aT), (2, .int x2), (5, .int x5)]) hx hb d_X_isExpression_81 hl (by decide) rfl (fun ls hl => ?_)
                  refine lv_goto (tgt := 134) hx hb d_X_isExpression_83 (by decide) ?_
                  refine lv_iinc (v := x5 + (1 : Int32)) (lv' := [(5, .int (x5 + (1 : Int32))), (4, .int (x4 + (1 : Int32))), (3, .int (0 : Int32)), (6, .int o_5), (0, .ref aX), (1, .ref aT), (2, .int x2)]) hx hb d_X_isExpression_134 hl (k := 6) rfl rfl (by decide) rfl (fun ls hl => ?_)
                  refine lv_goto (tgt := 8) hx hb d_X_isExpression_137 (by decide) ?_
                  exact ih x2 (0 : Int32) (x4 + (1 : Int32)) (x5 + (1 : Int32)) H locs ls hf (hP.part (cx := [(aX, .inr (5, [.ref aM, .ref aY, .int xn, .ref aV])), (aM, .inl (cM, 1024, .inr (.inr (.inr (.inr xm))))), (aT, .inr (2, [.ref aK, .ref aG, .ref aE, .ref aW, .int tn, .int ts])), (aK, .inl (cK, 1024, .inl tk)), (aW, .inl (cW, 1024, .inr (.inl tw)))]) [0, 1, 2, 3, 4] rfl) (hD.part (cx := [(aX, .inr (5, [.ref aM, .ref aY, .int xn, .ref aV])), (aM, .inl (cM, 1024, .inr (.inr (.inr (.inr xm))))), (aT, .inr (2, [.ref aK, .ref aG, .ref aE, .ref aW, .int tn, .int ts])), (aK, .inl (cK, 1024, .inl tk)), (aW, .inl (cW, 1024, .inr (.inl tw)))]) [0, 1, 2, 3, 4] (by decide) rfl) hS (lv_sub hl [4, 5, 6, 2, 1, 0] rfl)
              · rw [if_neg c_21] at hf
                refine lv_iload hx hb d_X_isExpression_56 (lv_at hl 1 rfl) ?_
                obtain ⟨o_23, hM_23, hf⟩ := bd_some hf
                refine cr_i (va_runS (As := [.int o_5]) (rest := []) ⟨hx, hb, hml, hown, hts⟩ (c_X_isPrefix l dC dI   H.size  o_5 o_23 hM_23) (va_cwS 1 hts (gwS wb_429 wb_431 wb_158 wb_430) rfl rfl rfl (by decide +kernel) ⟨Nat.le_of_ble_eq_true rfl, Nat.le_of_ble_eq_true rfl⟩) (pr_S (hP.sub [] rfl) (hD.sub [] (by decide) rfl) hK hN [] rfl) rfl rfl hl.1 rfl (lv_room (Nat.le_of_ble_eq_true rfl)) d_X_isExpression_58 ⟨Nat.zero_le _, Nat.zero_le _⟩) hP hD hS hA (in_of [] rfl) (fun r_23 H locs hw hP hS => ?_)
                obtain ⟨hw, hz_23⟩ := hw
                subst r_23
                refine lv_if_ne (tgt := 66) hx hb d_X_isExpression_61 (by decide) (fun c_24 => ?_) (fun c_24 => ?_)
                · rw [if_neg c_24] at hf
                  refine lv_iload hx hb d_X_isExpression_66 (lv_at hl 5 rfl) ?_
                  refine lv_iload hx hb d_X_isExpression_68 (lv_at hl 1 rfl) ?_
                  refine lv_bipush (v := (40 : Int32)) hx hb d_X_isExpression_70 (by decide) ?_
                  refine lv_icmp_ne (tgt := 79) hx hb d_X_isExpression_72 (by decide) (fun c_25 => ?_) (fun c_25 => ?_)
                  · rw [if_neg c_25] at hf
                    refine lv_iconst (v := (0 : Int32)) hx hb d_X_isExpression_79 (by decide) ?_
                    refine lv_iadd hx hb d_X_isExpression_80 ?_
                    refine lv_istore (lv' := [(4, .int (x4 + (0 : Int32))), (3, .int (0 : Int32)), (6, .int o_5), (0, .ref aX), (1, .ref aT), (2, .int x2), (5, .int x5)]) hx hb d_X_isExpression_81 hl (by decide) rfl (fun ls hl => ?_)
                    refine lv_goto (tgt := 134) hx hb d_X_isExpression_83 (by decide) ?_
                    refine lv_iinc (v := x5 + (1 : Int32)) (lv' := [(5, .int (x5 + (1 : Int32))), (4, .int (x4 + (0 : Int32))), (3, .int (0 : Int32)), (6, .int o_5), (0, .ref aX), (1, .ref aT), (2, .int x2)]) hx hb d_X_isExpression_134 hl (k := 6) rfl rfl (by decide) rfl (fun ls hl => ?_)
                    refine lv_goto (tgt := 8) hx hb d_X_isExpression_137 (by decide) ?_
                    exact ih x2 (0 : Int32) (x4 + (0 : Int32)) (x5 + (1 : Int32)) H locs ls hf (hP.part (cx := [(aX, .inr (5, [.ref aM, .ref aY, .int xn, .ref aV])), (aM, .inl (cM, 1024, .inr (.inr (.inr (.inr xm))))), (aT, .inr (2, [.ref aK, .ref aG, .ref aE, .ref aW, .int tn, .int ts])), (aK, .inl (cK, 1024, .inl tk)), (aW, .inl (cW, 1024, .inr (.inl tw)))]) [0, 1, 2, 3, 4] rfl) (hD.part (cx := [(aX, .inr (5, [.ref aM, .ref aY, .int xn, .ref aV])), (aM, .inl (cM, 1024, .inr (.inr (.inr (.inr xm))))), (aT, .inr (2, [.ref aK, .ref aG, .ref aE, .ref aW, .int tn, .int ts])), (aK, .inl (cK, 1024, .inl tk)), (aW, .inl (cW, 1024, .inr (.inl tw)))]) [0, 1, 2, 3, 4] (by decide) rfl) hS (lv_sub hl [4, 5, 6, 2, 1, 0] rfl)
                  · rw [if_pos c_25] at hf
                    refine lv_iconst (v := (1 : Int32)) hx hb d_X_isExpression_75 (by decide) ?_
                    refine lv_goto (tgt := 80) hx hb d_X_isExpression_76 (by decide) ?_
                    refine lv_iadd hx hb d_X_isExpression_80 ?_
                    refine lv_istore (lv' := [(4, .int (x4 + (1 : Int32))), (3, .int (0 : Int32)), (6, .int o_5), (0, .ref aX), (1, .ref aT), (2, .int x2), (5, .int x5)]) hx hb d_X_isExpression_81 hl (by decide) rfl (fun ls hl => ?_)
                    refine lv_goto (tgt := 134) hx hb d_X_isExpression_83 (by decide) ?_
                    refine lv_iinc (v := x5 + (1 : Int32)) (lv' := [(5, .int (x5 + (1 : Int32))), (4, .int (x4 + (1 : Int32))), (3, .int (0 : Int32)), (6, .int o_5), (0, .ref aX), (1, .ref aT), (2, .int x2)]) hx hb d_X_isExpression_134 hl (k := 6) rfl rfl (by decide) rfl (fun ls hl => ?_)
                    refine lv_goto (tgt := 8) hx hb d_X_isExpression_137 (by decide) ?_
                    exact ih x2 (0 : Int32) (x4 + (1 : Int32)) (x5 + (1 : Int32)) H locs ls hf (hP.part (cx := [(aX, .inr (5, [.ref aM, .ref aY, .int xn, .ref aV])), (aM, .inl (cM, 1024, .inr (.inr (.inr (.inr xm))))), (aT, .inr (2, [.ref aK, .ref aG, .ref aE, .ref aW, .int tn, .int ts])), (aK, .inl (cK, 1024, .inl tk)), (aW, .inl (cW, 1024, .inr (.inl tw)))]) [0, 1, 2, 3, 4] rfl) (hD.part (cx := [(aX, .inr (5, [.ref aM, .ref aY, .int xn, .ref aV])), (aM, .inl (cM, 1024, .inr (.inr (.inr (.inr xm))))), (aT, .inr (2, [.ref aK, .ref aG, .ref aE, .ref aW, .int tn, .int ts])), (aK, .inl (cK, 1024, .inl tk)), (aW, .inl (cW, 1024, .inr (.inl tw)))]) [0, 1, 2, 3, 4] (by decide) rfl) hS (lv_sub hl [4, 5, 6, 2, 1, 0] rfl)
                · rw [if_pos c_24] at hf
                  refine lv_iconst (v := (0 : Int32)) hx hb d_X_isExpression_64 (by decide) ?_
                  have ho := Option.some.inj hf
                  have hP9 : va_P (dC, dI) vwCl (([(aX, .inr (5, [.ref aM, .ref aY, .int xn, .ref aV])), (aM, .inl (cM, 1024, .inr (.inr (.inr (.inr xm))))), (aT, .inr (2, [.ref aK, .ref aG, .ref aE, .ref aW, .int tn, .int ts])), (aK, .inl (cK, 1024, .inl tk)), (aW, .inl (cW, 1024, .inr (.inl tw)))] : va_W) ++ np cB ns) H := by exact hP.part (cx := [(aX, .inr (5, [.ref aM, .ref aY, .int xn, .ref aV])), (aM, .inl (cM, 1024, .inr (.inr (.inr (.inr xm))))), (aT, .inr (2, [.ref aK, .ref aG, .ref aE, .ref aW, .int tn, .int ts])), (aK, .inl (cK, 1024, .inl tk)), (aW, .inl (cW, 1024, .inr (.inl tw)))]) [0, 1, 2, 3, 4] rfl
                  have hD9 : va_D A (([(aX, .inr (5, [.ref aM, .ref aY, .int xn, .ref aV])), (aM, .inl (cM, 1024, .inr (.inr (.inr (.inr xm))))), (aT, .inr (2, [.ref aK, .ref aG, .ref aE, .ref aW, .int tn, .int ts])), (aK, .inl (cK, 1024, .inl tk)), (aW, .inl (cW, 1024, .inr (.inl tw)))] : va_W) ++ np cB ns) := by exact hD.part (cx := [(aX, .inr (5, [.ref aM, .ref aY, .int xn, .ref aV])), (aM, .inl (cM, 1024, .inr (.inr (.inr (.inr xm))))), (aT, .inr (2, [.ref aK, .ref aG, .ref aE, .ref aW, .int tn, .int ts])), (aK, .inl (cK, 1024, .inl tk)), (aW, .inl (cW, 1024, .inr (.inl tw)))]) [0, 1, 2, 3, 4] (by decide) rfl
                  rw [hQ]
                  exact W.zret (v := (0 : Int32)) (ty := .boolean) hx hb hr rfl (fun t ht hW => ⟨⟨(0 : Int32), (), rfl, ⟨congrArg (fun z => z) ho, rfl⟩, by rw [ht]; exact hP9, va_K.moved hW.alike hK, hD9⟩, hS.F ht⟩) hS.2.2 d_X_isExpression_65
          · rw [if_pos c_18] at hf
            refine lv_iconst (v := (1 : Int32)) hx hb d_X_isExpression_39 (by decide) ?_
            refine lv_goto (tgt := 44) hx hb d_X_isExpression_40 (by decide) ?_
            refine lv_istore_n (lv' := [(3, .int (1 : Int32)), (6, .int o_5), (0, .ref aX), (1, .ref aT), (2, .int x2), (4, .int x4), (5, .int x5)]) hx hb d_X_isExpression_44 rfl hl (by decide) rfl (fun ls hl => ?_)
            refine lv_iload_n hx hb d_X_isExpression_45 rfl (lv_at hl 0 rfl) ?_
            refine lv_if_eq (tgt := 66) hx hb d_X_isExpression_46 (by decide) (fun c_26 => ?_) (fun c_26 => ?_)
            · rw [if_pos c_26] at hf
              refine lv_iload hx hb d_X_isExpression_66 (lv_at hl 5 rfl) ?_
              refine lv_iload hx hb d_X_isExpression_68 (lv_at hl 1 rfl) ?_
              refine lv_bipush (v := (40 : Int32)) hx hb d_X_isExpression_70 (by decide) ?_
              refine lv_icmp_ne (tgt := 79) hx hb d_X_isExpression_72 (by decide) (fun c_27 => ?_) (fun c_27 => ?_)
              · rw [if_neg c_27] at hf
                refine lv_iconst (v := (0 : Int32)) hx hb d_X_isExpression_79 (by decide) ?_
                refine lv_iadd hx hb d_X_isExpression_80 ?_
                refine lv_istore (lv' := [(4, .int (x4 + (0 : Int32))), (3, .int (1 : Int32)), (6, .int o_5), (0, .ref aX), (1, .ref aT), (2, .int x2), (5, .int x5)]) hx hb d_X_isExpression_81 hl (by decide) rfl (fun ls hl => ?_)
                refine lv_goto (tgt := 134) hx hb d_X_isExpression_83 (by decide) ?_
                refine lv_iinc (v := x5 + (1 : Int32)) (lv' := [(5, .int (x5 + (1 : Int32))), (4, .int (x4 + (0 : Int32))), (3, .int (1 : Int32)), (6, .int o_5), (0, .ref aX), (1, .ref aT), (2, .int x2)]) hx hb d_X_isExpression_134 hl (k := 6) rfl rfl (by decide) rfl (fun ls hl => ?_)
                refine lv_goto (tgt := 8) hx hb d_X_isExpression_137 (by decide) ?_
                exact ih x2 (1 : Int32) (x4 + (0 : Int32)) (x5 + (1 : Int32)) H locs ls hf (hP.part (cx := [(aX, .inr (5, [.ref aM, .ref aY, .int xn, .ref aV])), (aM, .inl (cM, 1024, .inr (.inr (.inr (.inr xm))))), (aT, .inr (2, [.ref aK, .ref aG, .ref aE, .ref aW, .int tn, .int ts])), (aK, .inl (cK, 1024, .inl tk)), (aW, .inl (cW, 1024, .inr (.inl tw)))]) [0, 1, 2, 3, 4] rfl) (hD.part (cx := [(aX, .inr (5, [.ref aM, .ref aY, .int xn, .ref aV])), (aM, .inl (cM, 1024, .inr (.inr (.inr (.inr xm))))), (aT, .inr (2, [.ref aK, .ref aG, .ref aE, .ref aW, .int tn, .int ts])), (aK, .inl (cK, 1024, .inl tk)), (aW, .inl (cW, 1024, .inr (.inl tw)))]) [0, 1, 2, 3, 4] (by decide) rfl) hS (lv_sub hl [4, 5, 6, 2, 1, 0] rfl)
              · rw [if_pos c_27] at hf
                refine lv_iconst (v := (1 : Int32)) hx hb d_X_isExpression_75 (by decide) ?_
                refine lv_goto (tgt := 80) hx hb d_X_isExpression_76 (by decide) ?_
                refine lv_iadd hx hb d_X_isExpression_80 ?_
                refine lv_istore (lv' := [(4, .int (x4 + (1 : Int32))), (3, .int (1 : Int32)), (6, .int o_5), (0, .ref aX), (1, .ref aT), (2, .int x2), (5, .int x5)]) hx hb d_X_isExpression_81 hl (by decide) rfl (fun ls hl => ?_)
                refine lv_goto (tgt := 134) hx hb d_X_isExpression_83 (by decide) ?_
                refine lv_iinc (v := x5 + (1 : Int32)) (lv' := [(5, .int (x5 + (1 : Int32))), (4, .int (x4 + (1 : Int32))), (3, .int (1 : Int32)), (6, .int o_5), (0, .ref aX), (1, .ref aT), (2, .int x2)]) hx hb d_X_isExpression_134 hl (k := 6) rfl rfl (by decide) rfl (fun ls hl => ?_)
                refine lv_goto (tgt := 8) hx hb d_X_isExpression_137 (by decide) ?_
                exact ih x2 (1 : Int32) (x4 + (1 : Int32)) (x5 + (1 : Int32)) H locs ls hf (hP.part (cx := [(aX, .inr (5, [.ref aM, .ref aY, .int xn, .ref aV])), (aM, .inl (cM, 1024, .inr (.inr (.inr (.inr xm))))), (aT, .inr (2, [.ref aK, .ref aG, .ref aE, .ref aW, .int tn, .int ts])), (aK, .inl (cK, 1024, .inl tk)), (aW, .inl (cW, 1024, .inr (.inl tw)))]) [0, 1, 2, 3, 4] rfl) (hD.part (cx := [(aX, .inr (5, [.ref aM, .ref aY, .int xn, .ref aV])), (aM, .inl (cM, 1024, .inr (.inr (.inr (.inr xm))))), (aT, .inr (2, [.ref aK, .ref aG, .ref aE, .ref aW, .int tn, .int ts])), (aK, .inl (cK, 1024, .inl tk)), (aW, .inl (cW, 1024, .inr (.inl tw)))]) [0, 1, 2, 3, 4] (by decide) rfl) hS (lv_sub hl [4, 5, 6, 2, 1, 0] rfl)
            · rw [if_neg c_26] at hf
              refine lv_iload hx hb d_X_isExpression_49 (lv_at hl 1 rfl) ?_
              refine lv_bipush (v := (40 : Int32)) hx hb d_X_isExpression_51 (by decide) ?_
              refine lv_icmp_eq (tgt := 66) hx hb d_X_isExpression_53 (by decide) (fun c_28 => ?_) (fun c_28 => ?_)
              · rw [if_pos c_28] at hf
                refine lv_iload hx hb d_X_isExpression_66 (lv_at hl 5 rfl) ?_
                refine lv_iload hx hb d_X_isExpression_68 (lv_at hl 1 rfl) ?_
                refine lv_bipush (v := (40 : Int32)) hx hb d_X_isExpression_70 (by decide) ?_
                refine lv_icmp_ne (tgt := 79) hx hb d_X_isExpression_72 (by decide) (fun c_29 => ?_) (fun c_29 => ?_)
                · rw [if_neg c_29] at hf
                  refine lv_iconst (v := (0 : Int32)) hx hb d_X_isExpression_79 (by decide) ?_
                  refine lv_iadd hx hb d_X_isExpression_80 ?_
                  refine lv_istore (lv' := [(4, .int (x4 + (0 : Int32))), (3, .int (1 : Int32)), (6, .int o_5), (0, .ref aX), (1, .ref aT), (2, .int x2), (5, .int x5)]) hx hb d_X_isExpression_81 hl (by decide) rfl (fun ls hl => ?_)
                  refine lv_goto (tgt := 134) hx hb d_X_isExpression_83 (by decide) ?_
                  refine lv_iinc (v := x5 + (1 : Int32)) (lv' := [(5, .int (x5 + (1 : Int32))), (4, .int (x4 + (0 : Int32))), (3, .int (1 : Int32)), (6, .int o_5), (0, .ref aX), (1, .ref aT), (2, .int x2)]) hx hb d_X_isExpression_134 hl (k := 6) rfl rfl (by decide) rfl (fun ls hl => ?_)
                  refine lv_goto (tgt := 8) hx hb d_X_isExpression_137 (by decide) ?_
                  exact ih x2 (1 : Int32) (x4 + (0 : Int32)) (x5 + (1 : Int32)) H locs ls hf (hP.part (cx := [(aX, .inr (5, [.ref aM, .ref aY, .int xn, .ref aV])), (aM, .inl (cM, 1024, .inr (.inr (.inr (.inr xm))))), (aT, .inr (2, [.ref aK, .ref aG, .ref aE, .ref aW, .int tn, .int ts])), (aK, .inl (cK, 1024, .inl tk)), (aW, .inl (cW, 1024, .inr (.inl tw)))]) [0, 1, 2, 3, 4] rfl) (hD.part (cx := [(aX, .inr (5, [.ref aM, .ref aY, .int xn, .ref aV])), (aM, .inl (cM, 1024, .inr (.inr (.inr (.inr xm))))), (aT, .inr (2, [.ref aK, .ref aG, .ref aE, .ref aW, .int tn, .int ts])), (aK, .inl (cK, 1024, .inl tk)), (aW, .inl (cW, 1024, .inr (.inl tw)))]) [0, 1, 2, 3, 4] (by decide) rfl) hS (lv_sub hl [4, 5, 6, 2, 1, 0] rfl)
                · rw [if_pos c_29] at hf
                  refine lv_iconst (v := (1 : Int32)) hx hb d_X_isExpression_75 (by decide) ?_
                  refine lv_goto (tgt := 80) hx hb d_X_isExpression_76 (by decide) ?_
                  refine lv_iadd hx hb d_X_isExpression_80 ?_
                  refine lv_istore (lv' := [(4, .int (x4 + (1 : Int32))), (3, .int (1 : Int32)), (6, .int o_5), (0, .ref aX), (1, .ref aT), (2, .int x2), (5, .int x5)]) hx hb d_X_isExpression_81 hl (by decide) rfl (fun ls hl => ?_)
                  refine lv_goto (tgt := 134) hx hb d_X_isExpression_83 (by decide) ?_
                  refine lv_iinc (v := x5 + (1 : Int32)) (lv' := [(5, .int (x5 + (1 : Int32))), (4, .int (x4 + (1 : Int32))), (3, .int (1 : Int32)), (6, .int o_5), (0, .ref aX), (1, .ref aT), (2, .int x2)]) hx hb d_X_isExpression_134 hl (k := 6) rfl rfl (by decide) rfl (fun ls hl => ?_)
                  refine lv_goto (tgt := 8) hx hb d_X_isExpression_137 (by decide) ?_
                  exact ih x2 (1 : Int32) (x4 + (1 : Int32)) (x5 + (1 : Int32)) H locs ls hf (hP.part (cx := [(aX, .inr (5, [.ref aM, .ref aY, .int xn, .ref aV])), (aM, .inl (cM, 1024, .inr (.inr (.inr (.inr xm))))), (aT, .inr (2, [.ref aK, .ref aG, .ref aE, .ref aW, .int tn, .int ts])), (aK, .inl (cK, 1024, .inl tk)), (aW, .inl (cW, 1024, .inr (.inl tw)))]) [0, 1, 2, 3, 4] rfl) (hD.part (cx := [(aX, .inr (5, [.ref aM, .ref aY, .int xn, .ref aV])), (aM, .inl (cM, 1024, .inr (.inr (.inr (.inr xm))))), (aT, .inr (2, [.ref aK, .ref aG, .ref aE, .ref aW, .int tn, .int ts])), (aK, .inl (cK, 1024, .inl tk)), (aW, .inl (cW, 1024, .inr (.inl tw)))]) [0, 1, 2, 3, 4] (by decide) rfl) hS (lv_sub hl [4, 5, 6, 2, 1, 0] rfl)
              · rw [if_neg c_28] at hf
                refine lv_iload hx hb d_X_isExpression_56 (lv_at hl 1 rfl) ?_
                obtain ⟨o_30, hM_30, hf⟩ := bd_some hf
                refine cr_i (va_runS (As := [.int o_5]) (rest := []) ⟨hx, hb, hml, hown, hts⟩ (c_X_isPrefix l dC dI   H.size  o_5 o_30 hM_30) (va_cwS 1 hts (gwS wb_429 wb_431 wb_158 wb_430) rfl rfl rfl (by decide +kernel) ⟨Nat.le_of_ble_eq_true rfl, Nat.le_of_ble_eq_true rfl⟩) (pr_S (hP.sub [] rfl) (hD.sub [] (by decide) rfl) hK hN [] rfl) rfl rfl hl.1 rfl (lv_room (Nat.le_of_ble_eq_true rfl)) d_X_isExpression_58 ⟨Nat.zero_le _, Nat.zero_le _⟩) hP hD hS hA (in_of [] rfl) (fun r_30 H locs hw hP hS => ?_)
                obtain ⟨hw, hz_30⟩ := hw
                subst r_30
                refine lv_if_ne (tgt := 66) hx hb d_X_isExpression_61 (by decide) (fun c_31 => ?_) (fun c_31 => ?_)
                · rw [if_neg c_31] at hf
                  refine lv_iload hx hb d_X_isExpression_66 (lv_at hl 5 rfl) ?_
                  refine lv_iload hx hb d_X_isExpression_68 (lv_at hl 1 rfl) ?_
                  refine lv_bipush (v := (40 : Int32)) hx hb d_X_isExpression_70 (by decide) ?_
                  refine lv_icmp_ne (tgt := 79) hx hb d_X_isExpression_72 (by decide) (fun c_32 => ?_) (fun c_32 => ?_)
                  · rw [if_neg c_32] at hf
                    refine lv_iconst (v := (0 : Int32)) hx hb d_X_isExpression_79 (by decide) ?_
                    refine lv_iadd hx hb d_X_isExpression_80 ?_
                    refine lv_istore (lv' := [(4, .int (x4 + (0 : Int32))), (3, .int (1 : Int32)), (6, .int o_5), (0, .ref aX), (1, .ref aT), (2, .int x2), (5, .int x5)]) hx hb d_X_isExpression_81 hl (by decide) rfl (fun ls hl => ?_)
                    refine lv_goto (tgt := 134) hx hb d_X_isExpression_83 (by decide) ?_
                    refine lv_iinc (v := x5 + (1 : Int32)) (lv' := [(5, .int (x5 + (1 : Int32))), (4, .int (x4 + (0 : Int32))), (3, .int (1 : Int32)), (6, .int o_5), (0, .ref aX), (1, .ref aT), (2, .int x2)]) hx hb d_X_isExpression_134 hl (k := 6) rfl rfl (by decide) rfl (fun ls hl => ?_)
                    refine lv_goto (tgt := 8) hx hb d_X_isExpression_137 (by decide) ?_
                    exact ih x2 (1 : Int32) (x4 + (0 : Int32)) (x5 + (1 : Int32)) H locs ls hf (hP.part (cx := [(aX, .inr (5, [.ref aM, .ref aY, .int xn, .ref aV])), (aM, .inl (cM, 1024, .inr (.inr (.inr (.inr xm))))), (aT, .inr (2, [.ref aK, .ref aG, .ref aE, .ref aW, .int tn, .int ts])), (aK, .inl (cK, 1024, .inl tk)), (aW, .inl (cW, 1024, .inr (.inl tw)))]) [0, 1, 2, 3, 4] rfl) (hD.part (cx := [(aX, .inr (5, [.ref aM, .ref aY, .int xn, .ref aV])), (aM, .inl (cM, 1024, .inr (.inr (.inr (.inr xm))))), (aT, .inr (2, [.ref aK, .ref aG, .ref aE, .ref aW, .int tn, .int ts])), (aK, .inl (cK, 1024, .inl tk)), (aW, .inl (cW, 1024, .inr (.inl tw)))]) [0, 1, 2, 3, 4] (by decide) rfl) hS (lv_sub hl [4, 5, 6, 2, 1, 0] rfl)
                  · rw [if_pos c_32] at hf
                    refine lv_iconst (v := (1 : Int32)) hx hb d_X_isExpression_75 (by decide) ?_
                    refine lv_goto (tgt := 80) hx hb d_X_isExpression_76 (by decide) ?_
                    refine lv_iadd hx hb d_X_isExpression_80 ?_
                    refine lv_istore (lv' := [(4, .int (x4 + (1 : Int32))), (3, .int (1 : Int32)), (6, .int o_5), (0, .ref aX), (1, .ref aT), (2, .int x2), (5, .int x5)]) hx hb d_X_isExpression_81 hl (by decide) rfl (fun ls hl => ?_)
                    refine lv_goto (tgt := 134) hx hb d_X_isExpression_83 (by decide) ?_
                    refine lv_iinc (v := x5 + (1 : Int32)) (lv' := [(5, .int (x5 + (1 : Int32))), (4, .int (x4 + (1 : Int32))), (3, .int (1 : Int32)), (6, .int o_5), (0, .ref aX), (1, .ref aT), (2, .int x2)]) hx hb d_X_isExpression_134 hl (k := 6) rfl rfl (by decide) rfl (fun ls hl => ?_)
                    refine lv_goto (tgt := 8) hx hb d_X_isExpression_137 (by decide) ?_
                    exact ih x2 (1 : Int32) (x4 + (1 : Int32)) (x5 + (1 : Int32)) H locs ls hf (hP.part (cx := [(aX, .inr (5, [.ref aM, .ref aY, .int xn, .ref aV])), (aM, .inl (cM, 1024, .inr (.inr (.inr (.inr xm))))), (aT, .inr (2, [.ref aK, .ref aG, .ref aE, .ref aW, .int tn, .int ts])), (aK, .inl (cK, 1024, .inl tk)), (aW, .inl (cW, 1024, .inr (.inl tw)))]) [0, 1, 2, 3, 4] rfl) (hD.part (cx := [(aX, .inr (5, [.ref aM, .ref aY, .int xn, .ref aV])), (aM, .inl (cM, 1024, .inr (.inr (.inr (.inr xm))))), (aT, .inr (2, [.ref aK, .ref aG, .ref aE, .ref aW, .int tn, .int ts])), (aK, .inl (cK, 1024, .inl tk)), (aW, .inl (cW, 1024, .inr (.inl tw)))]) [0, 1, 2, 3, 4] (by decide) rfl) hS (lv_sub hl [4, 5, 6, 2, 1, 0] rfl)
                · rw [if_pos c_31] at hf
                  refine lv_iconst (v := (0 : Int32)) hx hb d_X_isExpression_64 (by decide) ?_
                  have ho := Option.some.inj hf
                  have hP9 : va_P (dC, dI) vwCl (([(aX, .inr (5, [.ref aM, .ref aY, .int xn, .ref aV])), (aM, .inl (cM, 1024, .inr (.inr (.inr (.inr xm))))), (aT, .inr (2, [.ref aK, .ref aG, .ref aE, .ref aW, .int tn, .int ts])), (aK, .inl (cK, 1024, .inl tk)), (aW, .inl (cW, 1024, .inr (.inl tw)))] : va_W) ++ np cB ns) H := by exact hP.part (cx := [(aX, .inr (5, [.ref aM, .ref aY, .int xn, .ref aV])), (aM, .inl (cM, 1024, .inr (.inr (.inr (.inr xm))))), (aT, .inr (2, [.ref aK, .ref aG, .ref aE, .ref aW, .int tn, .int ts])), (aK, .inl (cK, 1024, .inl tk)), (aW, .inl (cW, 1024, .inr (.inl tw)))]) [0, 1, 2, 3, 4] rfl
                  have hD9 : va_D A (([(aX, .inr (5, [.ref aM, .ref aY, .int xn, .ref aV])), (aM, .inl (cM, 1024, .inr (.inr (.inr (.inr xm))))), (aT, .inr (2, [.ref aK, .ref aG, .ref aE, .ref aW, .int tn, .int ts])), (aK, .inl (cK, 1024, .inl tk)), (aW, .inl (cW, 1024, .inr (.inl tw)))] : va_W) ++ np cB ns) := by exact hD.part (cx := [(aX, .inr (5, [.ref aM, .ref aY, .int xn, .ref aV])), (aM, .inl (cM, 1024, .inr (.inr (.inr (.inr xm))))), (aT, .inr (2, [.ref aK, .ref aG, .ref aE, .ref aW, .int tn, .int ts])), (aK, .inl (cK, 1024, .inl tk)), (aW, .inl (cW, 1024, .inr (.inl tw)))]) [0, 1, 2, 3, 4] (by decide) rfl
                  rw [hQ]
                  exact W.zret (v := (0 : Int32)) (ty := .boolean) hx hb hr rfl (fun t ht hW => ⟨⟨(0 : Int32), (), rfl, ⟨congrArg (fun z => z) ho, rfl⟩, by rw [ht]; exact hP9, va_K.moved hW.alike hK, hD9⟩, hS.F ht⟩) hS.2.2 d_X_isExpression_65
  unfold f_X_isExpression at hf
  refine lv_iconst (v := (1 : Int32)) hx hb d_X_isExpression_0 (by decide) ?_
  refine lv_istore_n (lv' := [(3, .int (1 : Int32)), (0, .ref aX), (1, .ref aT), (2, .int p1)]) hx hb d_X_isExpression_1 rfl hl (by decide) rfl (fun ls hl => ?_)
  refine lv_iconst (v := (0 : Int32)) hx hb d_X_isExpression_2 (by decide) ?_
  refine lv_istore (lv' := [(4, .int (0 : Int32)), (3, .int (1 : Int32)), (0, .ref aX), (1, .ref aT), (2, .int p1)]) hx hb d_X_isExpression_3 hl (by decide) rfl (fun ls hl => ?_)
  refine lv_iconst (v := (0 : Int32)) hx hb d_X_isExpression_5 (by decide) ?_
  refine lv_istore (lv' := [(5, .int (0 : Int32)), (4, .int (0 : Int32)), (3, .int (1 : Int32)), (0, .ref aX), (1, .ref aT), (2, .int p1)]) hx hb d_X_isExpression_6 hl (by decide) rfl (fun ls hl => ?_)
  exact loop_8 FU p1 (1 : Int32) (0 : Int32) (0 : Int32) s.heap [] ls hf (hP.part (cx := [(aX, .inr (5, [.ref aM, .ref aY, .int xn, .ref aV])), (aM, .inl (cM, 1024, .inr (.inr (.inr (.inr xm))))), (aT, .inr (2, [.ref aK, .ref aG, .ref aE, .ref aW, .int tn, .int ts])), (aK, .inl (cK, 1024, .inl tk)), (aW, .inl (cW, 1024, .inr (.inl tw)))]) [0, 1, 2, 3, 4] rfl) (hD.part (cx := [(aX, .inr (5, [.ref aM, .ref aY, .int xn, .ref aV])), (aM, .inl (cM, 1024, .inr (.inr (.inr (.inr xm))))), (aT, .inr (2, [.ref aK, .ref aG, .ref aE, .ref aW, .int tn, .int ts])), (aK, .inl (cK, 1024, .inl tk)), (aW, .inl (cW, 1024, .inr (.inl tw)))]) [0, 1, 2, 3, 4] (by decide) rfl) hS (lv_sub hl [3, 4, 5, 2, 1, 0] rfl)
