theorem d_K_add_0 : decode b_K_add 0 = .ok (.aload_n 0, 1) := by decide +kernel
theorem d_K_add_1 : decode b_K_add 1 = .ok (.getfield 17, 3) := by decide +kernel
theorem d_K_add_4 : decode b_K_add 4 = .ok (.sipush 256, 3) := by decide +kernel
theorem d_K_add_7 : decode b_K_add 7 = .ok (.if_icmp .lt 5, 3) := by decide +kernel
theorem d_K_add_10 : decode b_K_add 10 = .ok (.iconst 0, 1) := by decide +kernel
theorem d_K_add_11 : decode b_K_add 11 = .ok (.ireturn, 1) := by decide +kernel
theorem d_K_add_12 : decode b_K_add 12 = .ok (.aload_n 0, 1) := by decide +kernel
theorem d_K_add_13 : decode b_K_add 13 = .ok (.getfield 13, 3) := by decide +kernel
theorem d_K_add_16 : decode b_K_add 16 = .ok (.aload_n 0, 1) := by decide +kernel
theorem d_K_add_17 : decode b_K_add 17 = .ok (.getfield 17, 3) := by decide +kernel
theorem d_K_add_20 : decode b_K_add 20 = .ok (.aload_n 1, 1) := by decide +kernel
theorem d_K_add_21 : decode b_K_add 21 = .ok (.aastore, 1) := by decide +kernel
theorem d_K_add_22 : decode b_K_add 22 = .ok (.aload_n 0, 1) := by decide +kernel
theorem d_K_add_23 : decode b_K_add 23 = .ok (.dup, 1) := by decide +kernel
theorem d_K_add_24 : decode b_K_add 24 = .ok (.getfield 17, 3) := by decide +kernel
theorem d_K_add_27 : decode b_K_add 27 = .ok (.iconst 1, 1) := by decide +kernel
theorem d_K_add_28 : decode b_K_add 28 = .ok (.iadd, 1) := by decide +kernel
theorem d_K_add_29 : decode b_K_add 29 = .ok (.putfield 17, 3) := by decide +kernel
theorem d_K_add_32 : decode b_K_add 32 = .ok (.iconst 1, 1) := by decide +kernel
theorem d_K_add_33 : decode b_K_add 33 = .ok (.ireturn, 1) := by decide +kernel
theorem d_K_learn_0 : decode b_K_learn 0 = .ok (.aload_n 0, 1) := by decide +kernel
theorem d_K_learn_1 : decode b_K_learn 1 = .ok (.aload_n 1, 1) := by decide +kernel
theorem d_K_learn_2 : decode b_K_learn 2 = .ok (.iload_n 2, 1) := by decide +kernel
theorem d_K_learn_3 : decode b_K_learn 3 = .ok (.iload_n 3, 1) := by decide +kernel
theorem d_K_learn_4 : decode b_K_learn 4 = .ok (.invokevirtual 34, 3) := by decide +kernel
theorem d_K_learn_7 : decode b_K_learn 7 = .ok (.ifnull 5, 3) := by decide +kernel
theorem d_K_learn_10 : decode b_K_learn 10 = .ok (.iconst 0, 1) := by decide +kernel
theorem d_K_learn_11 : decode b_K_learn 11 = .ok (.ireturn, 1) := by decide +kernel
theorem d_K_learn_12 : decode b_K_learn 12 = .ok (.aload_n 0, 1) := by decide +kernel
theorem d_K_learn_13 : decode b_K_learn 13 = .ok (.new 11, 3) := by decide +kernel
theorem d_K_learn_16 : decode b_K_learn 16 = .ok (.dup, 1) := by decide +kernel
theorem d_K_learn_17 : decode b_K_learn 17 = .ok (.aload_n 1, 1) := by decide +kernel
theorem d_K_learn_18 : decode b_K_learn 18 = .ok (.iload_n 2, 1) := by decide +kernel
theorem d_K_learn_19 : decode b_K_learn 19 = .ok (.iload_n 3, 1) := by decide +kernel
theorem d_K_learn_20 : decode b_K_learn 20 = .ok (.invokevirtual 38, 3) := by decide +kernel
theorem d_K_learn_23 : decode b_K_learn 23 = .ok (.iload 4, 2) := by decide +kernel
theorem d_K_learn_25 : decode b_K_learn 25 = .ok (.lload 5, 2) := by decide +kernel
theorem d_K_learn_27 : decode b_K_learn 27 = .ok (.iconst (-1), 1) := by decide +kernel
theorem d_K_learn_28 : decode b_K_learn 28 = .ok (.invokespecial 42, 3) := by decide +kernel
theorem d_K_learn_31 : decode b_K_learn 31 = .ok (.invokevirtual 45, 3) := by decide +kernel
theorem d_K_learn_34 : decode b_K_learn 34 = .ok (.ireturn, 1) := by decide +kernel
theorem d_K_placeFor_0 : decode b_K_placeFor 0 = .ok (.aload_n 0, 1) := by decide +kernel
theorem d_K_placeFor_1 : decode b_K_placeFor 1 = .ok (.aload_n 1, 1) := by decide +kernel
theorem d_K_placeFor_2 : decode b_K_placeFor 2 = .ok (.iload_n 2, 1) := by decide +kernel
theorem d_K_placeFor_3 : decode b_K_placeFor 3 = .ok (.iload_n 3, 1) := by decide +kernel
theorem d_K_placeFor_4 : decode b_K_placeFor 4 = .ok (.invokevirtual 34, 3) := by decide +kernel
theorem d_K_placeFor_7 : decode b_K_placeFor 7 = .ok (.astore 4, 2) := by decide +kernel
theorem d_K_placeFor_9 : decode b_K_placeFor 9 = .ok (.aload 4, 2) := by decide +kernel
theorem d_K_placeFor_11 : decode b_K_placeFor 11 = .ok (.ifnull 9, 3) := by decide +kernel
theorem d_K_placeFor_14 : decode b_K_placeFor 14 = .ok (.aload 4, 2) := by decide +kernel
theorem d_K_placeFor_16 : decode b_K_placeFor 16 = .ok (.getfield 49, 3) := by decide +kernel
theorem d_K_placeFor_19 : decode b_K_placeFor 19 = .ok (.ireturn, 1) := by decide +kernel
theorem d_K_placeFor_20 : decode b_K_placeFor 20 = .ok (.aload_n 0, 1) := by decide +kernel
theorem d_K_placeFor_21 : decode b_K_placeFor 21 = .ok (.new 11, 3) := by decide +kernel
theorem d_K_placeFor_24 : decode b_K_placeFor 24 = .ok (.dup, 1) := by decide +kernel
theorem d_K_placeFor_25 : decode b_K_placeFor 25 = .ok (.aload_n 1, 1) := by decide +kernel
theorem d_K_placeFor_26 : decode b_K_placeFor 26 = .ok (.iload_n 2, 1) := by decide +kernel
theorem d_K_placeFor_27 : decode b_K_placeFor 27 = .ok (.iload_n 3, 1) := by decide +kernel
theorem d_K_placeFor_28 : decode b_K_placeFor 28 = .ok (.invokevirtual 38, 3) := by decide +kernel
theorem d_K_placeFor_31 : decode b_K_placeFor 31 = .ok (.iconst 0, 1) := by decide +kernel
theorem d_K_placeFor_32 : decode b_K_placeFor 32 = .ok (.lconst 0, 1) := by decide +kernel
theorem d_K_placeFor_33 : decode b_K_placeFor 33 = .ok (.aload_n 0, 1) := by decide +kernel
theorem d_K_placeFor_34 : decode b_K_placeFor 34 = .ok (.getfield 21, 3) := by decide +kernel
theorem d_K_placeFor_37 : decode b_K_placeFor 37 = .ok (.invokespecial 42, 3) := by decide +kernel
theorem d_K_placeFor_40 : decode b_K_placeFor 40 = .ok (.invokevirtual 45, 3) := by decide +kernel
theorem d_K_placeFor_43 : decode b_K_placeFor 43 = .ok (.ifCond .ne 5, 3) := by decide +kernel
theorem d_K_placeFor_46 : decode b_K_placeFor 46 = .ok (.iconst (-1), 1) := by decide +kernel
theorem d_K_placeFor_47 : decode b_K_placeFor 47 = .ok (.ireturn, 1) := by decide +kernel
theorem d_K_placeFor_48 : decode b_K_placeFor 48 = .ok (.aload_n 0, 1) := by decide +kernel
theorem d_K_placeFor_49 : decode b_K_placeFor 49 = .ok (.dup, 1) := by decide +kernel
theorem d_K_placeFor_50 : decode b_K_placeFor 50 = .ok (.getfield 21, 3) := by decide +kernel
theorem d_K_placeFor_53 : decode b_K_placeFor 53 = .ok (.iconst 1, 1) := by decide +kernel
theorem d_K_placeFor_54 : decode b_K_placeFor 54 = .ok (.iadd, 1) := by decide +kernel
theorem d_K_placeFor_55 : decode b_K_placeFor 55 = .ok (.putfield 21, 3) := by decide +kernel
theorem d_K_placeFor_58 : decode b_K_placeFor 58 = .ok (.aload_n 0, 1) := by decide +kernel
theorem d_K_placeFor_59 : decode b_K_placeFor 59 = .ok (.getfield 21, 3) := by decide +kernel
theorem d_K_placeFor_62 : decode b_K_placeFor 62 = .ok (.iconst 1, 1) := by decide +kernel
theorem d_K_placeFor_63 : decode b_K_placeFor 63 = .ok (.isub, 1) := by decide +kernel
theorem d_K_placeFor_64 : decode b_K_placeFor 64 = .ok (.ireturn, 1) := by decide +kernel
theorem wb_312 : Cond.methodLink R_K 34 y_K_find ∈ WB := wbm (i := 330) (by decide +kernel) rfl
theorem wb_313 : Cond.code y_K_find b_K_find 6 (some (.object "ExpressionReader$Name")) ∈ WB := wbm (i := 333) (by decide +kernel) rfl
theorem wb_314 : Cond.instanceMethod y_K_find ∈ WB := wbm (i := 331) (by decide +kernel) rfl
theorem wb_315 : Cond.selects R_K y_K_find y_K_find ∈ WB := wbm (i := 332) (by decide +kernel) rfl
theorem wb_316 : Cond.initialized R_K ∈ WB := wbm (i := 53) (by decide +kernel) rfl
theorem nl_1 : Cond.fieldLinkNest R_K 49 R_N "where" "I" R_R ∈ NL := nlm (i := 657) (by decide +kernel) rfl
def f_K_add (kn : Int32) (kq : Nat → Option Nat) (ns : List NmR) (z0 : Nat) : Option (Int32 × Int32 × (Nat → Option Nat)) := if kn < (256 : Int32) then (nsg ns z0).bind (fun r_2 => gi kn 256 (some ((1 : Int32), kn + (1 : Int32), va_up kq kn.toNatClampNeg (some z0)))) else some ((0 : Int32), kn, kq)
set_option maxHeartbeats 4000000 in
set_option maxRecDepth 100000 in
theorem c_K_add (l : Launch) (dC : Nat → ClassId) (dI : Nat → Nat → Nat) (aN aQ : Nat) (cQ cB : ClassId) (sz : Nat) (kn : Int32) (kp : Int32) (kq : Nat → Option Nat) (ns : List NmR) (z0 : Nat) (o : Int32 × Int32 × (Nat → Option Nat)) (hf : f_K_add kn kq ns z0 = some o) : Met l y_K_add (w_K_add) ({ frames := 0, cells := 0, slots := 0, locals := 0 }) (va_Pc [.ref aN, .ref z0] (fun U => U.heap.size = sz ∧ va_P (dC, dI) vwCl (([(aN, .inr (4, [.ref aQ, .int kn, .int kp])), (aQ, .inl (cQ, 256, .inr (.inr (.inr (.inr kq)))))] : va_W) ++ np cB ns) U.heap ∧ va_K (dC, dI) vwCl [(cQ, (.object "ExpressionReader$Name")), (cB, .byte)] U ∧ va_D (fun _ => True) (([(aN, .inr (4, [.ref aQ, .int kn, .int kp])), (aQ, .inl (cQ, 256, .inr (.inr (.inr (.inr kq)))))] : va_W) ++ np cB ns) ∧ NW U)) (va_Qi (fun (r : Int32) (_ : Unit) => r = o.1 ∧ narrow .boolean (.int r) = .int r) (fun _ t => va_P (dC, dI) vwCl (([(aN, .inr (4, [.ref aQ, .int o.2.1, .int kp])), (aQ, .inl (cQ, 256, .inr (.inr (.inr (.inr o.2.2)))))] : va_W) ++ np cB ns) t.heap ∧ va_K (dC, dI) vwCl [(cQ, (.object "ExpressionReader$Name")), (cB, .byte)] t ∧ va_D (va_A (([(aN, .inr (4, [.ref aQ, .int kn, .int kp])), (aQ, .inl (cQ, 256, .inr (.inr (.inr (.inr kq)))))] : va_W) ++ np cB ns) sz) (([(aN, .inr (4, [.ref aQ, .int o.2.1, .int kp])), (aQ, .inl (cQ, 256, .inr (.inr (.inr (.inr o.2.2)))))] : va_W) ++ np cB ns)) (va_A (([(aN, .inr (4, [.ref aQ, .int kn, .int kp])), (aQ, .inl (cQ, 256, .inr (.inr (.inr (.inr kq)))))] : va_W) ++ np cB ns) sz)) 0 0 (va_A (([(aN, .inr (4, [.ref aQ, .int kn, .int kp])), (aQ, .inl (cQ, 256, .inr (.inr (.inr (.inr kq)))))] : va_W) ++ np cB ns) sz) := by
  refine Met.ofW (cc := b_K_add) (maxL := 2) (ret := (some .boolean)) (by decide) rfl ?_
  intro p e s m args below meth c s₁ B hml hv
  obtain ⟨rfl, hsz, hP, hK, hD0, hN⟩ := hv
  have hx := B.exec
  have hb := B.bytes
  have hr := B.returns
  have hts : ∀ w ∈ WB, w.before _ s = true := fun w h => atoms_spec (ws := w_K_add) B.pre w (List.mem_cons_of_mem _ h)
  have hown : s.vm.findClass R_K = some m.cls := findClass_of_methodNamed B.named
  have hlocks := B.notSynchronized
  subst hsz
  have hD := hD0.self (sz := s.heap.size)
  generalize hAe : va_A (([(aN, .inr (4, [.ref aQ, .int kn, .int kp])), (aQ, .inl (cQ, 256, .inr (.inr (.inr (.inr kq)))))] : va_W) ++ np cB ns) s.heap.size = A at hD ⊢
  have hA : ∀ q : Nat, s.heap.size ≤ q → A q := fun q h => by rw [← hAe]; exact Or.inr h
  have hS : va_S A s.heap s.heap [] := va_S.rf
  have hP : va_P (dC, dI) vwCl (([(aN, .inr (4, [.ref aQ, .int kn, .int kp])), (aQ, .inl (cQ, 256, .inr (.inr (.inr (.inr kq)))))] : va_W) ++ np cB ns) s.heap := hP
  have hl := lv_entry [.ref aN, .ref z0] (n := 2) (Nat.le_of_ble_eq_true rfl)
  rw [lg_entry_eq]
  generalize (lg_sl [.ref aN, .ref z0] ++ List.replicate (2 - (lg_sl [.ref aN, .ref z0]).length) Slot.unset).toArray = ls at hl ⊢
  have hl : lv_has ls 2 [(0, .ref aN), (1, .ref z0)] := hl
  suffices key : ∀ Q : State → Prop, Q = (MQ below (va_Qi (fun (r : Int32) (_ : Unit) => r = o.1 ∧ narrow .boolean (.int r) = .int r) (fun _ t => va_P (dC, dI) vwCl (([(aN, .inr (4, [.ref aQ, .int o.2.1, .int kp])), (aQ, .inl (cQ, 256, .inr (.inr (.inr (.inr o.2.2)))))] : va_W) ++ np cB ns) t.heap ∧ va_K (dC, dI) vwCl [(cQ, (.object "ExpressionReader$Name")), (cB, .byte)] t ∧ va_D A (([(aN, .inr (4, [.ref aQ, .int o.2.1, .int kp])), (aQ, .inl (cQ, 256, .inr (.inr (.inr (.inr o.2.2)))))] : va_W) ++ np cB ns)) A) [.ref aN, .ref z0].toArray s 0 0 A) → W p l e (headSpec (w_K_add) ({ frames := 0, cells := 0, slots := 0, locals := 0 })).room s m [.ref aN, .ref z0].toArray below meth c s.heap [] 0 0 Q (F0 m 0 ls []) from key _ rfl
  intro Q hQ
  unfold f_K_add at hf
  refine lv_aload_n hx hb d_K_add_0 rfl (lv_at hl 0 rfl) ?_
  refine va_get (D := (dC, dI)) (ci := 4) (v := .int kn) (C := R_K) (T := F_K) (N := 3) hx hb hts i_K hown hK hP 0 rfl rfl 1 (by decide) (hts _ wb_306) (fun _ h9 => h9) rfl d_K_add_1 ?_
  refine lv_sipush (v := (256 : Int32)) hx hb d_K_add_4 (by decide) ?_
  refine lv_icmp_lt (tgt := 12) hx hb d_K_add_7 (by decide) (fun c_1 => ?_) (fun c_1 => ?_)
  · rw [if_pos c_1] at hf
    refine lv_aload_n hx hb d_K_add_12 rfl (lv_at hl 0 rfl) ?_
    refine va_get (D := (dC, dI)) (ci := 4) (v := .ref aQ) (C := R_K) (T := F_K) (N := 3) hx hb hts i_K hown hK hP 0 rfl rfl 0 (by decide) (hts _ wb_307) (fun _ h9 => h9) rfl d_K_add_13 ?_
    refine lv_aload_n hx hb d_K_add_16 rfl (lv_at hl 0 rfl) ?_
    refine va_get (D := (dC, dI)) (ci := 4) (v := .int kn) (C := R_K) (T := F_K) (N := 3) hx hb hts i_K hown hK hP 0 rfl rfl 1 (by decide) (hts _ wb_306) (fun _ h9 => h9) rfl d_K_add_17 ?_
    refine lv_aload_n hx hb d_K_add_20 rfl (lv_at hl 1 rfl) ?_
    obtain ⟨r_2, hr_2, hf⟩ := bd_some hf
    obtain ⟨kz_2, hz_2, hy_2⟩ := np_get (X := [(aN, .inr (4, [.ref aQ, .int kn, .int kp])), (aQ, .inl (cQ, 256, .inr (.inr (.inr (.inr kq)))))]) (cB := cB) hr_2
    obtain ⟨hin, hf⟩ := gi_some hf
    refine va_astq hx hb hK hP hD hS 1 0 kz_2 3 rfl rfl hz_2 rfl hin d_K_add_21 (fun H locs hP hD hS => ?_)
    have hP : va_P (dC, dI) vwCl (([(aN, .inr (4, [.ref aQ, .int kn, .int kp])), (aQ, .inl (cQ, 256, .inr (.inr (.inr (.inr (va_up kq kn.toNatClampNeg (some z0)))))))] : va_W) ++ np cB ns) H := hP
    have hD : va_D A (([(aN, .inr (4, [.ref aQ, .int kn, .int kp])), (aQ, .inl (cQ, 256, .inr (.inr (.inr (.inr (va_up kq kn.toNatClampNeg (some z0)))))))] : va_W) ++ np cB ns) := hD
    refine lv_aload_n hx hb d_K_add_22 rfl (lv_at hl 0 rfl) ?_
    refine lv_dup hx hb d_K_add_23 rfl ?_
    refine va_get (D := (dC, dI)) (ci := 4) (v := .int kn) (C := R_K) (T := F_K) (N := 3) hx hb hts i_K hown hK hP 0 rfl rfl 1 (by decide) (hts _ wb_306) (fun _ h9 => h9) rfl d_K_add_24 ?_
    refine lv_iconst (v := (1 : Int32)) hx hb d_K_add_27 (by decide) ?_
    refine lv_iadd hx hb d_K_add_28 ?_
    refine va_put (D := (dC, dI)) (ci := 4) (v := .int (kn + (1 : Int32))) (ty := .int) (C := R_K) (T := F_K) (N := 3) hx hb hts i_K ft_K tk_K n_K hown hK hP hD hS 0 rfl rfl 1 (by decide) (hts _ wb_306) (fun _ h9 => h9) rfl (by decide +kernel) rfl rfl (Nat.le_of_ble_eq_true rfl) d_K_add_29 (fun H locs hP hD hS => ?_)
    have hP : va_P (dC, dI) vwCl (([(aN, .inr (4, [.ref aQ, .int (kn + (1 : Int32)), .int kp])), (aQ, .inl (cQ, 256, .inr (.inr (.inr (.inr (va_up kq kn.toNatClampNeg (some z0)))))))] : va_W) ++ np cB ns) H := hP
    have hD : va_D A (([(aN, .inr (4, [.ref aQ, .int (kn + (1 : Int32)), .int kp])), (aQ, .inl (cQ, 256, .inr (.inr (.inr (.inr (va_up kq kn.toNatClampNeg (some z0)))))))] : va_W) ++ np cB ns) := hD
    refine lv_iconst (v := (1 : Int32)) hx hb d_K_add_32 (by decide) ?_
    have ho := Option.some.inj hf
    have hP9 : va_P (dC, dI) vwCl (([(aN, .inr (4, [.ref aQ, .int o.2.1, .int kp])), (aQ, .inl (cQ, 256, .inr (.inr (.inr (.inr o.2.2)))))] : va_W) ++ np cB ns) H := by rw [← ho]; exact hP.part (cx := [(aN, .inr (4, [.ref aQ, .int (kn + (1 : Int32)), .int kp])), (aQ, .inl (cQ, 256, .inr (.inr (.inr (.inr (va_up kq kn.toNatClampNeg (some z0)))))))]) [0, 1] rfl
    have hD9 : va_D A (([(aN, .inr (4, [.ref aQ, .int o.2.1, .int kp])), (aQ, .inl (cQ, 256, .inr (.inr (.inr (.inr o.2.2)))))] : va_W) ++ np cB ns) := by rw [← ho]; exact hD.part (cx := [(aN, .inr (4, [.ref aQ, .int (kn + (1 : Int32)), .int kp])), (aQ, .inl (cQ, 256, .inr (.inr (.inr (.inr (va_up kq kn.toNatClampNeg (some z0)))))))]) [0, 1] (by decide) rfl
    rw [hQ]
    exact W.zret (v := (1 : Int32)) (ty := .boolean) hx hb hr rfl (fun t ht hW => ⟨⟨(1 : Int32), (), rfl, ⟨congrArg (fun z => z.1) ho, rfl⟩, by rw [ht]; exact hP9, va_K.moved hW.alike hK, hD9⟩, hS.F ht⟩) hS.2.2 d_K_add_33
  · rw [if_neg c_1] at hf
    refine lv_iconst (v := (0 : Int32)) hx hb d_K_add_10 (by decide) ?_
    have ho := Option.some.inj hf
    have hP9 : va_P (dC, dI) vwCl (([(aN, .inr (4, [.ref aQ, .int o.2.1, .int kp])), (aQ, .inl (cQ, 256, .inr (.inr (.inr (.inr o.2.2)))))] : va_W) ++ np cB ns) s.heap := by rw [← ho]; exact hP.part (cx := [(aN, .inr (4, [.ref aQ, .int kn, .int kp])), (aQ, .inl (cQ, 256, .inr (.inr (.inr (.inr kq)))))]) [0, 1] rfl
    have hD9 : va_D A (([(aN, .inr (4, [.ref aQ, .int o.2.1, .int kp])), (aQ, .inl (cQ, 256, .inr (.inr (.inr (.inr o.2.2)))))] : va_W) ++ np cB ns) := by rw [← ho]; exact hD.part (cx := [(aN, .inr (4, [.ref aQ, .int kn, .int kp])), (aQ, .inl (cQ, 256, .inr (.inr (.inr (.inr kq)))))]) [0, 1] (by decide) rfl
    rw [hQ]
    exact W.zret (v := (0 : Int32)) (ty := .boolean) hx hb hr rfl (fun t ht hW => ⟨⟨(0 : Int32), (), rfl, ⟨congrArg (fun z => z.1) ho, rfl⟩, by rw [ht]; exact hP9, va_K.moved hW.alike hK, hD9⟩, hS.F ht⟩) hS.2.2 d_K_add_11

def f_K_learn (kn : Int32) (kq : Nat → Option Nat) (ln : Int32) (lb : Nat → Int32) (ns : List NmR) (p1 : Int32) (p2 : Int32) (p3 : Int32) (p4 : Int64) : Option (Int32) := (f_K_find kn kq ln lb ns p1 p2).bind (fun o_1 => oc o_1 (none) (fun z_2 => some ((0 : Int32))))
set_option maxHeartbeats 4000000 in
set_option maxRecDepth 100000 in
theorem c_K_learn (l : Launch) (dC : Nat → ClassId) (dI : Nat → Nat → Nat) (aN aQ aL aB : Nat) (cQ cB : ClassId) (sz : Nat) (kn : Int32) (kp : Int32) (kq : Nat → Option Nat) (ln : Int32) (lb : Nat → Int32) (ns : List NmR) (p1 : Int32) (p2 : Int32) (p3 : Int32) (p4 : Int64) (o : Int32) (hf : f_K_learn kn kq ln lb ns p1 p2 p3 p4 = some o) : Met l y_K_learn (w_K_learn) ({ frames := 3, cells := 0, slots := 0, locals := 70 }) (va_Pc [.ref aN, .ref aL, .int p1, .int p2, .int p3, .long p4] (fun U => U.heap.size = sz ∧ va_P (dC, dI) vwCl (([(aN, .inr (4, [.ref aQ, .int kn, .int kp])), (aQ, .inl (cQ, 256, .inr (.inr (.inr (.inr kq))))), (aL, .inr (1, [.ref aB, .int ln])), (aB, .inl (cB, 1024, .inl lb))] : va_W) ++ np cB ns) U.heap ∧ va_K (dC, dI) vwCl [(cQ, (.object "ExpressionReader$Name")), (cB, .byte)] U ∧ va_D (fun _ => True) (([(aN, .inr (4, [.ref aQ, .int kn, .int kp])), (aQ, .inl (cQ, 256, .inr (.inr (.inr (.inr kq))))), (aL, .inr (1, [.ref aB, .int ln])), (aB, .inl (cB, 1024, .inl lb))] : va_W) ++ np cB ns) ∧ NW U)) (va_Qi (fun (r : Int32) (_ : Unit) => r = o ∧ narrow .boolean (.int r) = .int r) (fun _ t => va_P (dC, dI) vwCl (([(aN, .inr (4, [.ref aQ, .int kn, .int kp])), (aQ, .inl (cQ, 256, .inr (.inr (.inr (.inr kq))))), (aL, .inr (1, [.ref aB, .int ln])), (aB, .inl (cB, 1024, .inl lb))] : va_W) ++ np cB ns) t.heap ∧ va_K (dC, dI) vwCl [(cQ, (.object "ExpressionReader$Name")), (cB, .byte)] t ∧ va_D (va_A (([(aN, .inr (4, [.ref aQ, .int kn, .int kp])), (aQ, .inl (cQ, 256, .inr (.inr (.inr (.inr kq))))), (aL, .inr (1, [.ref aB, .int ln])), (aB, .inl (cB, 1024, .inl lb))] : va_W) ++ np cB ns) sz) (([(aN, .inr (4, [.ref aQ, .int kn, .int kp])), (aQ, .inl (cQ, 256, .inr (.inr (.inr (.inr kq))))), (aL, .inr (1, [.ref aB, .int ln])), (aB, .inl (cB, 1024, .inl lb))] : va_W) ++ np cB ns)) (va_A (([(aN, .inr (4, [.ref aQ, .int kn, .int kp])), (aQ, .inl (cQ, 256, .inr (.inr (.inr (.inr kq))))), (aL, .inr (1, [.ref aB, .int ln])), (aB, .inl (cB, 1024, .inl lb))] : va_W) ++ np cB ns) sz)) 0 0 (va_A (([(aN, .inr (4, [.ref aQ, .int kn, .int kp])), (aQ, .inl (cQ, 256, .inr (.inr (.inr (.inr kq))))), (aL, .inr (1, [.ref aB, .int ln])), (aB, .inl (cB, 1024, .inl lb))] : va_W) ++ np cB ns) sz) := by
  refine Met.ofW (cc := b_K_learn) (maxL := 7) (ret := (some .boolean)) (by decide) rfl ?_
  intro p e s m args below meth c s₁ B hml hv
  obtain ⟨rfl, hsz, hP, hK, hD0, hN⟩ := hv
  have hx := B.exec
  have hb := B.bytes
  have hr := B.returns
  have hts : ∀ w ∈ WB, w.before _ s = true := fun w h => atoms_spec (ws := w_K_learn) B.pre w (List.mem_cons_of_mem _ h)
  have hown : s.vm.findClass R_K = some m.cls := findClass_of_methodNamed B.named
  have hlocks := B.notSynchronized
  subst hsz
  have hD := hD0.self (sz := s.heap.size)
  generalize hAe : va_A (([(aN, .inr (4, [.ref aQ, .int kn, .int kp])), (aQ, .inl (cQ, 256, .inr (.inr (.inr (.inr kq))))), (aL, .inr (1, [.ref aB, .int ln])), (aB, .inl (cB, 1024, .inl lb))] : va_W) ++ np cB ns) s.heap.size = A at hD ⊢
  have hA : ∀ q : Nat, s.heap.size ≤ q → A q := fun q h => by rw [← hAe]; exact Or.inr h
  have hS : va_S A s.heap s.heap [] := va_S.rf
  have hP : va_P (dC, dI) vwCl (([(aN, .inr (4, [.ref aQ, .int kn, .int kp])), (aQ, .inl (cQ, 256, .inr (.inr (.inr (.inr kq))))), (aL, .inr (1, [.ref aB, .int ln])), (aB, .inl (cB, 1024, .inl lb))] : va_W) ++ np cB ns) s.heap := hP
  have hl := lv_entry [.ref aN, .ref aL, .int p1, .int p2, .int p3, .long p4] (n := 7) (Nat.le_of_ble_eq_true rfl)
  rw [lg_entry_eq]
  generalize (lg_sl [.ref aN, .ref aL, .int p1, .int p2, .int p3, .long p4] ++ List.replicate (7 - (lg_sl [.ref aN, .ref aL, .int p1, .int p2, .int p3, .long p4]).length) Slot.unset).toArray = ls at hl ⊢
  have hl : lv_has ls 7 [(0, .ref aN), (1, .ref aL), (2, .int p1), (3, .int p2), (4, .int p3), (5, .long p4)] := hl
  suffices key : ∀ Q : State → Prop, Q = (MQ below (va_Qi (fun (r : Int32) (_ : Unit) => r = o ∧ narrow .boolean (.int r) = .int r) (fun _ t => va_P (dC, dI) vwCl (([(aN, .inr (4, [.ref aQ, .int kn, .int kp])), (aQ, .inl (cQ, 256, .inr (.inr (.inr (.inr kq))))), (aL, .inr (1, [.ref aB, .int ln])), (aB, .inl (cB, 1024, .inl lb))] : va_W) ++ np cB ns) t.heap ∧ va_K (dC, dI) vwCl [(cQ, (.object "ExpressionReader$Name")), (cB, .byte)] t ∧ va_D A (([(aN, .inr (4, [.ref aQ, .int kn, .int kp])), (aQ, .inl (cQ, 256, .inr (.inr (.inr (.inr kq))))), (aL, .inr (1, [.ref aB, .int ln])), (aB, .inl (cB, 1024, .inl lb))] : va_W) ++ np cB ns)) A) [.ref aN, .ref aL, .int p1, .int p2, .int p3, .long p4].toArray s 0 0 A) → W p l e (headSpec (w_K_learn) ({ frames := 3, cells := 0, slots := 0, locals := 70 })).room s m [.ref aN, .ref aL, .int p1, .int p2, .int p3, .long p4].toArray below meth c s.heap [] 0 0 Q (F0 m 0 ls []) from key _ rfl
  intro Q hQ
  unfold f_K_learn at hf
  refine lv_aload_n hx hb d_K_learn_0 rfl (lv_at hl 0 rfl) ?_
  refine lv_aload_n hx hb d_K_learn_1 rfl (lv_at hl 1 rfl) ?_
  refine lv_iload_n hx hb d_K_learn_2 rfl (lv_at hl 2 rfl) ?_
  refine lv_iload_n hx hb d_K_learn_3 rfl (lv_at hl 3 rfl) ?_
  obtain ⟨o_1, hM_1, hf⟩ := bd_some hf
  refine cr_q (va_runV (As := [.ref aL, .int p1, .int p2]) (rest := []) ⟨hx, hb, hml, hown, hts⟩ (c_K_find l dC dI aN aQ aL aB cQ cB s.heap.size kn kp kq ln lb ns p1 p2 o_1 hM_1) (cwV 3 hts (gwV wb_312 wb_314 wb_315 wb_316 wb_313) rfl rfl rfl (by decide +kernel) ⟨Nat.le_of_ble_eq_true rfl, Nat.le_of_ble_eq_true rfl⟩) (pr_V (hP.part [0, 1, 2, 3] rfl) (hD.part [0, 1, 2, 3] (by decide) rfl) hK hN [0, 1] rfl (ci := 4) rfl rfl rfl) rfl rfl hl.1 rfl (lv_room (Nat.le_of_ble_eq_true rfl)) d_K_learn_4 ⟨Nat.zero_le _, Nat.zero_le _⟩) hP hD hS hA (in_pool [0, 1, 2, 3] rfl) (fun r_1 H locs hw hP hS => ?_)
  subst r_1
  cases e_2 : o_1 with
  | none =>
    rw [e_2, oc_none] at hf
    refine W.eq (g2 := F0 m 7 ls [.null]) rfl ?_
    refine lv_ifnullN (tgt := 12) hx hb d_K_learn_7 (by decide) ?_
    exact absurd hf (fun q => by cases q)
  | some z_2 =>
    rw [e_2, oc_some] at hf
    refine W.eq (g2 := F0 m 7 ls [.ref z_2]) rfl ?_
    refine lv_ifnull hx hb d_K_learn_7 ?_
    refine lv_iconst (v := (0 : Int32)) hx hb d_K_learn_10 (by decide) ?_
    have ho := Option.some.inj hf
    have hP9 : va_P (dC, dI) vwCl (([(aN, .inr (4, [.ref aQ, .int kn, .int kp])), (aQ, .inl (cQ, 256, .inr (.inr (.inr (.inr kq))))), (aL, .inr (1, [.ref aB, .int ln])), (aB, .inl (cB, 1024, .inl lb))] : va_W) ++ np cB ns) H := by exact hP.part (cx := [(aN, .inr (4, [.ref aQ, .int kn, .int kp])), (aQ, .inl (cQ, 256, .inr (.inr (.inr (.inr kq))))), (aL, .inr (1, [.ref aB, .int ln])), (aB, .inl (cB, 1024, .inl lb))]) [0, 1, 2, 3] rfl
    have hD9 : va_D A (([(aN, .inr (4, [.ref aQ, .int kn, .int kp])), (aQ, .inl (cQ, 256, .inr (.inr (.inr (.inr kq))))), (aL, .inr (1, [.ref aB, .int ln])), (aB, .inl (cB, 1024, .inl lb))] : va_W) ++ np cB ns) := by exact hD.part (cx := [(aN, .inr (4, [.ref aQ, .int kn, .int kp])), (aQ, .inl (cQ, 256, .inr (.inr (.inr (.inr kq))))), (aL, .inr (1, [.ref aB, .int ln])), (aB, .inl (cB, 1024, .inl lb))]) [0, 1, 2, 3] (by decide) rfl
    rw [hQ]
    exact W.zret (v := (0 : Int32)) (ty := .boolean) hx hb hr rfl (fun t ht hW => ⟨⟨(0 : Int32), (), rfl, ⟨congrArg (fun z => z) ho, rfl⟩, by rw [ht]; exact hP9, va_K.moved hW.alike hK, hD9⟩, hS.F ht⟩) hS.2.2 d_K_learn_11

def f_K_placeFor (kn : Int32) (kq : Nat → Option Nat) (ln : Int32) (lb : Nat → Int32) (ns : List NmR) (p1 : Int32) (p2 : Int32) : Option (Int32) := (f_K_find kn kq ln lb ns p1 p2).bind (fun o_1 => oc o_1 (none) (fun z_2 => (nsg ns z_2).bind (fun r_3 => some (r_3.2.2.2.2.2.2))))
set_option maxHeartbeats 4000000 in
set_option maxRecDepth 100000 in
theorem c_K_placeFor (l : Launch) (dC : Nat → ClassId) (dI : Nat → Nat → Nat) (aN aQ aL aB : Nat) (cQ cB : ClassId) (sz : Nat) (kn : Int32) (kp : Int32) (kq : Nat → Option Nat) (ln : Int32) (lb : Nat → Int32) (ns : List NmR) (p1 : Int32) (p2 : Int32) (o : Int32) (hf : f_K_placeFor kn kq ln lb ns p1 p2 = some o) : Met l y_K_placeFor (w_K_placeFor) ({ frames := 3, cells := 0, slots := 0, locals := 70 }) (va_Pc [.ref aN, .ref aL, .int p1, .int p2] (fun U => U.heap.size = sz ∧ va_P (dC, dI) vwCl (([(aN, .inr (4, [.ref aQ, .int kn, .int kp])), (aQ, .inl (cQ, 256, .inr (.inr (.inr (.inr kq))))), (aL, .inr (1, [.ref aB, .int ln])), (aB, .inl (cB, 1024, .inl lb))] : va_W) ++ np cB ns) U.heap ∧ va_K (dC, dI) vwCl [(cQ, (.object "ExpressionReader$Name")), (cB, .byte)] U ∧ va_D (fun _ => True) (([(aN, .inr (4, [.ref aQ, .int kn, .int kp])), (aQ, .inl (cQ, 256, .inr (.inr (.inr (.inr kq))))), (aL, .inr (1, [.ref aB, .int ln])), (aB, .inl (cB, 1024, .inl lb))] : va_W) ++ np cB ns) ∧ NW U)) (va_Qi (fun (r : Int32) (_ : Unit) => r = o) (fun _ t => va_P (dC, dI) vwCl (([(aN, .inr (4, [.ref aQ, .int kn, .int kp])), (aQ, .inl (cQ, 256, .inr (.inr (.inr (.inr kq))))), (aL, .inr (1, [.ref aB, .int ln])), (aB, .inl (cB, 1024, .inl lb))] : va_W) ++ np cB ns) t.heap ∧ va_K (dC, dI) vwCl [(cQ, (.object "ExpressionReader$Name")), (cB, .byte)] t ∧ va_D (va_A (([(aN, .inr (4, [.ref aQ, .int kn, .int kp])), (aQ, .inl (cQ, 256, .inr (.inr (.inr (.inr kq))))), (aL, .inr (1, [.ref aB, .int ln])), (aB, .inl (cB, 1024, .inl lb))] : va_W) ++ np cB ns) sz) (([(aN, .inr (4, [.ref aQ, .int kn, .int kp])), (aQ, .inl (cQ, 256, .inr (.inr (.inr (.inr kq))))), (aL, .inr (1, [.ref aB, .int ln])), (aB, .inl (cB, 1024, .inl lb))] : va_W) ++ np cB ns)) (va_A (([(aN, .inr (4, [.ref aQ, .int kn, .int kp])), (aQ, .inl (cQ, 256, .inr (.inr (.inr (.inr kq))))), (aL, .inr (1, [.ref aB, .int ln])), (aB, .inl (cB, 1024, .inl lb))] : va_W) ++ np cB ns) sz)) 0 0 (va_A (([(aN, .inr (4, [.ref aQ, .int kn, .int kp])), (aQ, .inl (cQ, 256, .inr (.inr (.inr (.inr kq))))), (aL, .inr (1, [.ref aB, .int ln])), (aB, .inl (cB, 1024, .inl lb))] : va_W) ++ np cB ns) sz) := by
  refine Met.ofW (cc := b_K_placeFor) (maxL := 5) (ret := (some .int)) (by decide) rfl ?_
  intro p e s m args below meth c s₁ B hml hv
  obtain ⟨rfl, hsz, hP, hK, hD0, hN⟩ := hv
  have hx := B.exec
  have hb := B.bytes
  have hr := B.returns
  have hts : ∀ w ∈ WB, w.before _ s = true := fun w h => atoms_spec (ws := w_K_placeFor) B.pre w (List.mem_cons_of_mem _ h)
  have hown : s.vm.findClass R_K = some m.cls := findClass_of_methodNamed B.named
  have hlocks := B.notSynchronized
  subst hsz
  have hD := hD0.self (sz := s.heap.size)
  generalize hAe : va_A (([(aN, .inr (4, [.ref aQ, .int kn, .int kp])), (aQ, .inl (cQ, 256, .inr (.inr (.inr (.inr kq))))), (aL, .inr (1, [.ref aB, .int ln])), (aB, .inl (cB, 1024, .inl lb))] : va_W) ++ np cB ns) s.heap.size = A at hD ⊢
  have hA : ∀ q : Nat, s.heap.size ≤ q → A q := fun q h => by rw [← hAe]; exact Or.inr h
  have hS : va_S A s.heap s.heap [] := va_S.rf
  have hP : va_P (dC, dI) vwCl (([(aN, .inr (4, [.ref aQ, .int kn, .int kp])), (aQ, .inl (cQ, 256, .inr (.inr (.inr (.inr kq))))), (aL, .inr (1, [.ref aB, .int ln])), (aB, .inl (cB, 1024, .inl lb))] : va_W) ++ np cB ns) s.heap := hP
  have hl := lv_entry [.ref aN, .ref aL, .int p1, .int p2] (n := 5) (Nat.le_of_ble_eq_true rfl)
  rw [lg_entry_eq]
  generalize (lg_sl [.ref aN, .ref aL, .int p1, .int p2] ++ List.replicate (5 - (lg_sl [.ref aN, .ref aL, .int p1, .int p2]).length) Slot.unset).toArray = ls at hl ⊢
  have hl : lv_has ls 5 [(0, .ref aN), (1, .ref aL), (2, .int p1), (3, .int p2)] := hl
  suffices key : ∀ Q : State → Prop, Q = (MQ below (va_Qi (fun (r : Int32) (_ : Unit) => r = o) (fun _ t => va_P (dC, dI) vwCl (([(aN, .inr (4, [.ref aQ, .int kn, .int kp])), (aQ, .inl (cQ, 256, .inr (.inr (.inr (.inr kq))))), (aL, .inr (1, [.ref aB, .int ln])), (aB, .inl (cB, 1024, .inl lb))] : va_W) ++ np cB ns) t.heap ∧ va_K (dC, dI) vwCl [(cQ, (.object "ExpressionReader$Name")), (cB, .byte)] t ∧ va_D A (([(aN, .inr (4, [.ref aQ, .int kn, .int kp])), (aQ, .inl (cQ, 256, .inr (.inr (.inr (.inr kq))))), (aL, .inr (1, [.ref aB, .int ln])), (aB, .inl (cB, 1024, .inl lb))] : va_W) ++ np cB ns)) A) [.ref aN, .ref aL, .int p1, .int p2].toArray s 0 0 A) → W p l e (headSpec (w_K_placeFor) ({ frames := 3, cells := 0, slots := 0, locals := 70 })).room s m [.ref aN, .ref aL, .int p1, .int p2].toArray below meth c s.heap [] 0 0 Q (F0 m 0 ls []) from key _ rfl
  intro Q hQ
  unfold f_K_placeFor at hf
  refine lv_aload_n hx hb d_K_placeFor_0 rfl (lv_at hl 0 rfl) ?_
  refine lv_aload_n hx hb d_K_placeFor_1 rfl (lv_at hl 1 rfl) ?_
  refine lv_iload_n hx hb d_K_placeFor_2 rfl (lv_at hl 2 rfl) ?_
  refine lv_iload_n hx hb d_K_placeFor_3 rfl (lv_at hl 3 rfl) ?_
  obtain ⟨o_1, hM_1, hf⟩ := bd_some hf
  refine cr_q (va_runV (As := [.ref aL, .int p1, .int p2]) (rest := []) ⟨hx, hb, hml, hown, hts⟩ (c_K_find l dC dI aN aQ aL aB cQ cB s.heap.size kn kp kq ln lb ns p1 p2 o_1 hM_1) (cwV 3 hts (gwV wb_312 wb_314 wb_315 wb_316 wb_313) rfl rfl rfl (by decide +kernel) ⟨Nat.le_of_ble_eq_true rfl, Nat.le_of_ble_eq_true rfl⟩) (pr_V (hP.part [0, 1, 2, 3] rfl) (hD.part [0, 1, 2, 3] (by decide) rfl) hK hN [0, 1] rfl (ci := 4) rfl rfl rfl) rfl rfl hl.1 rfl (lv_room (Nat.le_of_ble_eq_true rfl)) d_K_placeFor_4 ⟨Nat.zero_le _, Nat.zero_le _⟩) hP hD hS hA (in_pool [0, 1, 2, 3] rfl) (fun r_1 H locs hw hP hS => ?_)
  subst r_1
  cases e_2 : o_1 with
  | none =>
    rw [e_2, oc_none] at hf
    refine W.eq (g2 := F0 m 7 ls [.null]) rfl ?_
    refine lv_astoreN (lv' := [(4, .null), (0, .ref aN), (1, .ref aL), (2, .int p1), (3, .int p2)]) hx hb d_K_placeFor_7 hl (by decide) rfl (fun ls hl => ?_)
    refine lv_aloadN hx hb d_K_placeFor_9 (lv_at hl 0 rfl) ?_
    refine lv_ifnullN (tgt := 20) hx hb d_K_placeFor_11 (by decide) ?_
    exact absurd hf (fun q => by cases q)
  | some z_2 =>
    rw [e_2, oc_some] at hf
    refine W.eq (g2 := F0 m 7 ls [.ref z_2]) rfl ?_
    refine lv_astore (lv' := [(4, .ref z_2), (0, .ref aN), (1, .ref aL), (2, .int p1), (3, .int p2)]) hx hb d_K_placeFor_7 hl (by decide) rfl (fun ls hl => ?_)
    refine lv_aload hx hb d_K_placeFor_9 (lv_at hl 0 rfl) ?_
    refine lv_ifnull hx hb d_K_placeFor_11 ?_
    refine lv_aload hx hb d_K_placeFor_14 (lv_at hl 0 rfl) ?_
    obtain ⟨r_3, hr_3, hf⟩ := bd_some hf
    obtain ⟨kz_3, hz_3, hy_3⟩ := np_get (X := [(aN, .inr (4, [.ref aQ, .int kn, .int kp])), (aQ, .inl (cQ, 256, .inr (.inr (.inr (.inr kq))))), (aL, .inr (1, [.ref aB, .int ln])), (aB, .inl (cB, 1024, .inl lb))]) (cB := cB) hr_3
    refine va_getN (D := (dC, dI)) (ci := 3) (v := .int r_3.2.2.2.2.2.2) (C := R_N) (T := F_N) (N := 4) (host := R_R) hx hb hts i_N hown hK hP kz_3 hz_3 rfl 3 (by decide) (hN.use nl_1 rfl) (fun _ h9 => h9) rfl d_K_placeFor_16 ?_
    have ho := Option.some.inj hf
    have hP9 : va_P (dC, dI) vwCl (([(aN, .inr (4, [.ref aQ, .int kn, .int kp])), (aQ, .inl (cQ, 256, .inr (.inr (.inr (.inr kq))))), (aL, .inr (1, [.ref aB, .int ln])), (aB, .inl (cB, 1024, .inl lb))] : va_W) ++ np cB ns) H := by exact hP.part (cx := [(aN, .inr (4, [.ref aQ, .int kn, .int kp])), (aQ, .inl (cQ, 256, .inr (.inr (.inr (.inr kq))))), (aL, .inr (1, [.ref aB, .int ln])), (aB, .inl (cB, 1024, .inl lb))]) [0, 1, 2, 3] rfl
    have hD9 : va_D A (([(aN, .inr (4, [.ref aQ, .int kn, .int kp])), (aQ, .inl (cQ, 256, .inr (.inr (.inr (.inr kq))))), (aL, .inr (1, [.ref aB, .int ln])), (aB, .inl (cB, 1024, .inl lb))] : va_W) ++ np cB ns) := by exact hD.part (cx := [(aN, .inr (4, [.ref aQ, .int kn, .int kp])), (aQ, .inl (cQ, 256, .inr (.inr (.inr (.inr kq))))), (aL, .inr (1, [.ref aB, .int ln])), (aB, .inl (cB, 1024, .inl lb))]) [0, 1, 2, 3] (by decide) rfl
    rw [hQ]
    exact W.iret (v := r_3.2.2.2.2.2.2) hx hb hr (fun t ht hW => ⟨⟨r_3.2.2.2.2.2.2, (), rfl, congrArg (fun z => z) ho, by rw [ht]; exact hP9, va_K.moved hW.alike hK, hD9⟩, hS.F ht⟩) hS.2.2 d_K_placeFor_19
