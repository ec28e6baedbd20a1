theorem d_K_find_0 : decode b_K_find 0 = .ok (.iconst 0, 1) := by decide +kernel
theorem d_K_find_1 : decode b_K_find 1 = .ok (.istore 4, 2) := by decide +kernel
theorem d_K_find_3 : decode b_K_find 3 = .ok (.iload 4, 2) := by decide +kernel
theorem d_K_find_5 : decode b_K_find 5 = .ok (.aload_n 0, 1) := by decide +kernel
theorem d_K_find_6 : decode b_K_find 6 = .ok (.getfield 17, 3) := by decide +kernel
theorem d_K_find_9 : decode b_K_find 9 = .ok (.if_icmp .ge 40, 3) := by decide +kernel
theorem d_K_find_12 : decode b_K_find 12 = .ok (.aload_n 0, 1) := by decide +kernel
theorem d_K_find_13 : decode b_K_find 13 = .ok (.getfield 13, 3) := by decide +kernel
theorem d_K_find_16 : decode b_K_find 16 = .ok (.iload 4, 2) := by decide +kernel
theorem d_K_find_18 : decode b_K_find 18 = .ok (.aaload, 1) := by decide +kernel
theorem d_K_find_19 : decode b_K_find 19 = .ok (.astore 5, 2) := by decide +kernel
theorem d_K_find_21 : decode b_K_find 21 = .ok (.aload 5, 2) := by decide +kernel
theorem d_K_find_23 : decode b_K_find 23 = .ok (.ifnull 20, 3) := by decide +kernel
theorem d_K_find_26 : decode b_K_find 26 = .ok (.aload_n 1, 1) := by decide +kernel
theorem d_K_find_27 : decode b_K_find 27 = .ok (.aload 5, 2) := by decide +kernel
theorem d_K_find_29 : decode b_K_find 29 = .ok (.getfield 24, 3) := by decide +kernel
theorem d_K_find_32 : decode b_K_find 32 = .ok (.iload_n 2, 1) := by decide +kernel
theorem d_K_find_33 : decode b_K_find 33 = .ok (.iload_n 3, 1) := by decide +kernel
theorem d_K_find_34 : decode b_K_find 34 = .ok (.invokevirtual 28, 3) := by decide +kernel
theorem d_K_find_37 : decode b_K_find 37 = .ok (.ifCond .eq 6, 3) := by decide +kernel
theorem d_K_find_40 : decode b_K_find 40 = .ok (.aload 5, 2) := by decide +kernel
theorem d_K_find_42 : decode b_K_find 42 = .ok (.areturn, 1) := by decide +kernel
theorem d_K_find_43 : decode b_K_find 43 = .ok (.iinc 4 1, 3) := by decide +kernel
theorem d_K_find_46 : decode b_K_find 46 = .ok (.goto (-43), 3) := by decide +kernel
theorem d_K_find_49 : decode b_K_find 49 = .ok (.aconst_null, 1) := by decide +kernel
theorem d_K_find_50 : decode b_K_find 50 = .ok (.areturn, 1) := by decide +kernel
theorem wb_306 : Cond.fieldLink R_K 17 R_K "count" "I" ∈ WB := wbm (i := 132) (by decide +kernel) rfl
theorem wb_307 : Cond.fieldLink R_K 13 R_K "known" "[LExpressionReader$Name;" ∈ WB := wbm (i := 131) (by decide +kernel) rfl
theorem wb_308 : Cond.methodLink R_K 28 y_L_holds ∈ WB := wbm (i := 334) (by decide +kernel) rfl
theorem wb_309 : Cond.code y_L_holds b_L_holds 5 (some .boolean) ∈ WB := wbm (i := 337) (by decide +kernel) rfl
theorem wb_310 : Cond.instanceMethod y_L_holds ∈ WB := wbm (i := 335) (by decide +kernel) rfl
theorem wb_311 : Cond.selects R_L y_L_holds y_L_holds ∈ WB := wbm (i := 336) (by decide +kernel) rfl
theorem nl_0 : Cond.fieldLinkNest R_K 24 R_N "letters" "[B" R_R ∈ NL := nlm (i := 651) (by decide +kernel) rfl
def f_K_find_l3 : Nat → Int32 → (Nat → Option Nat) → Int32 → (Nat → Int32) → (List NmR) → Int32 → Int32 → Int32 → Option (Option Nat)
  | 0, _, _, _, _, _, _, _, _ => none
  | n + 1, kn, kq, ln, lb, ns, x2, x3, x4 => if kn ≤ x4 then some (none) else gi x4 256 (oc (kq x4.toNatClampNeg) (f_K_find_l3 n kn kq ln lb ns x2 x3 (x4 + (1 : Int32))) (fun z_2 => (nsg ns z_2).bind (fun r_3 => (f_L_holds ln lb r_3.2.2.1 r_3.2.2.2.1 x2 x3).bind (fun o_4 => if o_4 = (0 : Int32) then f_K_find_l3 n kn kq ln lb ns x2 x3 (x4 + (1 : Int32)) else some (some z_2)))))
def f_K_find (kn : Int32) (kq : Nat → Option Nat) (ln : Int32) (lb : Nat → Int32) (ns : List NmR) (p1 : Int32) (p2 : Int32) : Option (Option Nat) := f_K_find_l3 FU kn kq ln lb ns p1 p2 (0 : Int32)
set_option maxHeartbeats 4000000 in
set_option maxRecDepth 100000 in
theorem c_K_find (l : Launch) (dC : Nat → ClassId) (dI : Nat → Nat → Nat) (aN aQ aL aB : Nat) (cQ cB : ClassId) (sz : Nat) (kn : Int32) (kp : Int32) (kq : Nat → Option Nat) (ln : Int32) (lb : Nat → Int32) (ns : List NmR) (p1 : Int32) (p2 : Int32) (o : Option Nat) (hf : f_K_find kn kq ln lb ns p1 p2 = some o) : Met l y_K_find (w_K_find) ({ frames := 2, cells := 0, slots := 0, locals := 45 }) (va_Pc [.ref aN, .ref aL, .int p1, .int p2] (fun U => U.heap.size = sz ∧ va_P (dC, dI) vwCl (([(aN, .inr (4, [.ref aQ, .int kn, .int kp])), (aQ, .inl (cQ, 256, .inr (.inr (.inr (.inr kq))))), (aL, .inr (1, [.ref aB, .int ln])), (aB, .inl (cB, 1024, .inl lb))] : va_W) ++ np cB ns) U.heap ∧ va_K (dC, dI) vwCl [(cQ, (.object "ExpressionReader$Name")), (cB, .byte)] U ∧ va_D (fun _ => True) (([(aN, .inr (4, [.ref aQ, .int kn, .int kp])), (aQ, .inl (cQ, 256, .inr (.inr (.inr (.inr kq))))), (aL, .inr (1, [.ref aB, .int ln])), (aB, .inl (cB, 1024, .inl lb))] : va_W) ++ np cB ns) ∧ NW U)) (va_Qq (fun (r : Option Nat) (_ : Unit) => r = o) (fun _ t => va_P (dC, dI) vwCl (([(aN, .inr (4, [.ref aQ, .int kn, .int kp])), (aQ, .inl (cQ, 256, .inr (.inr (.inr (.inr kq))))), (aL, .inr (1, [.ref aB, .int ln])), (aB, .inl (cB, 1024, .inl lb))] : va_W) ++ np cB ns) t.heap ∧ va_K (dC, dI) vwCl [(cQ, (.object "ExpressionReader$Name")), (cB, .byte)] t ∧ va_D (va_A (([(aN, .inr (4, [.ref aQ, .int kn, .int kp])), (aQ, .inl (cQ, 256, .inr (.inr (.inr (.inr kq))))), (aL, .inr (1, [.ref aB, .int ln])), (aB, .inl (cB, 1024, .inl lb))] : va_W) ++ np cB ns) sz) (([(aN, .inr (4, [.ref aQ, .int kn, .int kp])), (aQ, .inl (cQ, 256, .inr (.inr (.inr (.inr kq))))), (aL, .inr (1, [.ref aB, .int ln])), (aB, .inl (cB, 1024, .inl lb))] : va_W) ++ np cB ns)) (va_A (([(aN, .inr (4, [.ref aQ, .int kn, .int kp])), (aQ, .inl (cQ, 256, .inr (.inr (.inr (.inr kq))))), (aL, .inr (1, [.ref aB, .int ln])), (aB, .inl (cB, 1024, .inl lb))] : va_W) ++ np cB ns) sz)) 0 0 (va_A (([(aN, .inr (4, [.ref aQ, .int kn, .int kp])), (aQ, .inl (cQ, 256, .inr (.inr (.inr (.inr kq))))), (aL, .inr (1, [.ref aB, .int ln])), (aB, .inl (cB, 1024, .inl lb))] : va_W) ++ np cB ns) sz) := by
  refine Met.ofW (cc := b_K_find) (maxL := 6) (ret := (some (.object "ExpressionReader$Name"))) (by decide) rfl ?_
  intro p e s m args below meth c s₁ B hml hv
  obtain ⟨rfl, hsz, hP, hK, hD0, hN⟩ := hv
  have hx := B.exec
  have hb := B.bytes
  have hr := B.returns
  have hts : ∀ w ∈ WB, w.before _ s = true := fun w h => atoms_spec (ws := w_K_find) B.pre w (List.mem_cons_of_mem _ h)
  have hown : s.vm.findClass R_K = some m.cls := findClass_of_methodNamed B.named
  have hlocks := B.notSynchronized
  subst hsz
  have hD := hD0.self (sz := s.heap.size)
  generalize hAe : va_A (([(aN, .inr (4, [.ref aQ, .int kn, .int kp])), (aQ, .inl (cQ, 256, .inr (.inr (.inr (.inr kq))))), (aL, .inr (1, [.ref aB, .int ln])), (aB, .inl (cB, 1024, .inl lb))] : va_W) ++ np cB ns) s.heap.size = A at hD ⊢
  have hA : ∀ q : Nat, s.heap.size ≤ q → A q := fun q h => by rw [← hAe]; exact Or.inr h
  have hS : va_S A s.heap s.heap [] := va_S.rf
  have hP : va_P (dC, dI) vwCl (([(aN, .inr (4, [.ref aQ, .int kn, .int kp])), (aQ, .inl (cQ, 256, .inr (.inr (.inr (.inr kq))))), (aL, .inr (1, [.ref aB, .int ln])), (aB, .inl (cB, 1024, .inl lb))] : va_W) ++ np cB ns) s.heap := hP
  have hl := lv_entry [.ref aN, .ref aL, .int p1, .int p2] (n := 6) (Nat.le_of_ble_eq_true rfl)
  rw [lg_entry_eq]
  generalize (lg_sl [.ref aN, .ref aL, .int p1, .int p2] ++ List.replicate (6 - (lg_sl [.ref aN, .ref aL, .int p1, .int p2]).length) Slot.unset).toArray = ls at hl ⊢
  have hl : lv_has ls 6 [(0, .ref aN), (1, .ref aL), (2, .int p1), (3, .int p2)] := hl
  have loop_3 : ∀ (n : Nat) (kn : Int32) (kq : Nat → Option Nat) (ln : Int32) (lb : Nat → Int32) (ns : List NmR) (x2 : Int32) (x3 : Int32) (x4 : Int32) (H : Heap) (locs : List Loc) (ls : Array Slot), f_K_find_l3 n kn kq ln lb ns x2 x3 x4 = some o → va_P (dC, dI) vwCl (([(aN, .inr (4, [.ref aQ, .int kn, .int kp])), (aQ, .inl (cQ, 256, .inr (.inr (.inr (.inr kq))))), (aL, .inr (1, [.ref aB, .int ln])), (aB, .inl (cB, 1024, .inl lb))] : va_W) ++ np cB ns) H → va_D A (([(aN, .inr (4, [.ref aQ, .int kn, .int kp])), (aQ, .inl (cQ, 256, .inr (.inr (.inr (.inr kq))))), (aL, .inr (1, [.ref aB, .int ln])), (aB, .inl (cB, 1024, .inl lb))] : va_W) ++ np cB ns) → va_S A s.heap H locs → lv_has ls 6 [(0, .ref aN), (1, .ref aL), (2, .int x2), (3, .int x3), (4, .int x4)] → W p l e (headSpec (w_K_find) ({ frames := 2, cells := 0, slots := 0, locals := 45 })).room s m [.ref aN, .ref aL, .int p1, .int p2].toArray below meth c H locs 0 0 (MQ below (va_Qq (fun (r : Option Nat) (_ : Unit) => r = o) (fun _ t => va_P (dC, dI) vwCl (([(aN, .inr (4, [.ref aQ, .int kn, .int kp])), (aQ, .inl (cQ, 256, .inr (.inr (.inr (.inr kq))))), (aL, .inr (1, [.ref aB, .int ln])), (aB, .inl (cB, 1024, .inl lb))] : va_W) ++ np cB ns) t.heap ∧ va_K (dC, dI) vwCl [(cQ, (.object "ExpressionReader$Name")), (cB, .byte)] t ∧ va_D A (([(aN, .inr (4, [.ref aQ, .int kn, .int kp])), (aQ, .inl (cQ, 256, .inr (.inr (.inr (.inr kq))))), (aL, .inr (1, [.ref aB, .int ln])), (aB, .inl (cB, 1024, .inl lb))] : va_W) ++ np cB ns)) A) [.ref aN, .ref aL, .int p1, .int p2].toArray s 0 0 A) (F0 m 3 ls []) := by
    intro n
    induction n with
    | zero => intro kn kq ln lb ns x2 x3 x4 H locs ls hf; exact absurd hf (by simp [f_K_find_l3])
    | succ n ih =>
      intro kn kq ln lb ns x2 x3 x4 H locs ls hf hP hD hS hl
      rw [f_K_find_l3] at hf
      refine lv_iload hx hb d_K_find_3 (lv_at hl 4 rfl) ?_
      refine lv_aload_n hx hb d_K_find_5 rfl (lv_at hl 0 rfl) ?_
      refine va_get (D := (dC, dI)) (ci := 4) (v := .int kn) (C := R_K) (T := F_K) (N := 3) hx hb hts i_K hown hK hP 0 rfl rfl 1 (by decide) (hts _ wb_306) (fun _ h9 => h9) rfl d_K_find_6 ?_
      refine lv_icmp_ge (tgt := 49) hx hb d_K_find_9 (by decide) (fun c_1 => ?_) (fun c_1 => ?_)
      · rw [if_pos c_1] at hf
        refine lv_null hx hb d_K_find_49 ?_
        have ho := Option.some.inj hf
        subst o
        have hP9 := hP.part (cx := [(aN, .inr (4, [.ref aQ, .int kn, .int kp])), (aQ, .inl (cQ, 256, .inr (.inr (.inr (.inr kq))))), (aL, .inr (1, [.ref aB, .int ln])), (aB, .inl (cB, 1024, .inl lb))]) [0, 1, 2, 3] rfl
        have hD9 := hD.part (cx := [(aN, .inr (4, [.ref aQ, .int kn, .int kp])), (aQ, .inl (cQ, 256, .inr (.inr (.inr (.inr kq))))), (aL, .inr (1, [.ref aB, .int ln])), (aB, .inl (cB, 1024, .inl lb))]) [0, 1, 2, 3] (by decide) rfl
        exact W.aret (v := .null) hx hb hr (Or.inl ⟨_, rfl⟩) (Or.inl rfl) (fun t ht hW => ⟨⟨none, (), rfl, rfl, by rw [ht]; exact hP9, va_K.moved hW.alike hK, hD9⟩, hS.F ht⟩) hS.2.2 d_K_find_50
      · rw [if_neg c_1] at hf
        refine lv_aload_n hx hb d_K_find_12 rfl (lv_at hl 0 rfl) ?_
        refine va_get (D := (dC, dI)) (ci := 4) (v := .ref aQ) (C := R_K) (T := F_K) (N := 3) hx hb hts i_K hown hK hP 0 rfl rfl 0 (by decide) (hts _ wb_307) (fun _ h9 => h9) rfl d_K_find_13 ?_
        refine lv_iload hx hb d_K_find_16 (lv_at hl 4 rfl) ?_
        obtain ⟨hin, hf⟩ := gi_some hf
        refine va_aldq hx hb hK hP 1 0 rfl rfl hin d_K_find_18 ?_
        cases e_2 : kq x4.toNatClampNeg with
        | none =>
          rw [e_2, oc_none] at hf
          refine W.eq (g2 := F0 m 19 ls [.null]) rfl ?_
          refine lv_astoreN (lv' := [(5, .null), (0, .ref aN), (1, .ref aL), (2, .int x2), (3, .int x3), (4, .int x4)]) hx hb d_K_find_19 hl (by decide) rfl (fun ls hl => ?_)
          refine lv_aloadN hx hb d_K_find_21 (lv_at hl 0 rfl) ?_
          refine lv_ifnullN (tgt := 43) hx hb d_K_find_23 (by decide) ?_
          refine lv_iinc (v := x4 + (1 : Int32)) (lv' := [(4, .int (x4 + (1 : Int32))), (5, .null), (0, .ref aN), (1, .ref aL), (2, .int x2), (3, .int x3)]) hx hb d_K_find_43 hl (k := 5) rfl rfl (by decide) rfl (fun ls hl => ?_)
          refine lv_goto (tgt := 3) hx hb d_K_find_46 (by decide) ?_
          exact ih kn kq ln lb ns x2 x3 (x4 + (1 : Int32)) H locs ls hf (hP.part (cx := [(aN, .inr (4, [.ref aQ, .int kn, .int kp])), (aQ, .inl (cQ, 256, .inr (.inr (.inr (.inr kq))))), (aL, .inr (1, [.ref aB, .int ln])), (aB, .inl (cB, 1024, .inl lb))]) [0, 1, 2, 3] rfl) (hD.part (cx := [(aN, .inr (4, [.ref aQ, .int kn, .int kp])), (aQ, .inl (cQ, 256, .inr (.inr (.inr (.inr kq))))), (aL, .inr (1, [.ref aB, .int ln])), (aB, .inl (cB, 1024, .inl lb))]) [0, 1, 2, 3] (by decide) rfl) hS (lv_sub hl [2, 3, 4, 5, 0] rfl)
        | some z_2 =>
          rw [e_2, oc_some] at hf
          refine W.eq (g2 := F0 m 19 ls [.ref z_2]) rfl ?_
          refine lv_astore (lv' := [(5, .ref z_2), (0, .ref aN), (1, .ref aL), (2, .int x2), (3, .int x3), (4, .int x4)]) hx hb d_K_find_19 hl (by decide) rfl (fun ls hl => ?_)
          refine lv_aload hx hb d_K_find_21 (lv_at hl 0 rfl) ?_
          refine lv_ifnull hx hb d_K_find_23 ?_
          refine lv_aload_n hx hb d_K_find_26 rfl (lv_at hl 2 rfl) ?_
          refine lv_aload hx hb d_K_find_27 (lv_at hl 0 rfl) ?_
          obtain ⟨r_3, hr_3, hf⟩ := bd_some hf
          obtain ⟨kz_3, hz_3, hy_3⟩ := np_get (X := [(aN, .inr (4, [.ref aQ, .int kn, .int kp])), (aQ, .inl (cQ, 256, .inr (.inr (.inr (.inr kq))))), (aL, .inr (1, [.ref aB, .int ln])), (aB, .inl (cB, 1024, .inl lb))]) (cB := cB) hr_3
          refine va_getN (D := (dC, dI)) (ci := 3) (v := .ref r_3.2.1) (C := R_N) (T := F_N) (N := 4) (host := R_R) hx hb hts i_N hown hK hP kz_3 hz_3 rfl 0 (by decide) (hN.use nl_0 rfl) (fun _ h9 => h9) rfl d_K_find_29 ?_
          refine lv_iload_n hx hb d_K_find_32 rfl (lv_at hl 3 rfl) ?_
          refine lv_iload_n hx hb d_K_find_33 rfl (lv_at hl 4 rfl) ?_
          obtain ⟨o_4, hM_4, hf⟩ := bd_some hf
          have hq_4 := lt_in (X := [(aN, .inr (4, [.ref aQ, .int kn, .int kp])), (aQ, .inl (cQ, 256, .inr (.inr (.inr (.inr kq))))), (aL, .inr (1, [.ref aB, .int ln])), (aB, .inl (cB, 1024, .inl lb))]) (cB := cB) hr_3
          obtain ⟨ki_4, hi_4, hj_4⟩ := hq_4
          refine cr_i (va_runV (As := [.ref r_3.2.1, .int x2, .int x3]) (rest := []) ⟨hx, hb, hml, hown, hts⟩ (c_L_holds l dC dI aL aB r_3.2.1 cB cB H.size ln lb r_3.2.2.1 r_3.2.2.2.1 x2 x3 o_4 hM_4) (cwV 3 hts (gwV wb_308 wb_310 wb_311 wb_6 wb_309) rfl rfl rfl (by decide +kernel) ⟨Nat.le_of_ble_eq_true rfl, Nat.le_of_ble_eq_true rfl⟩) (pr_V (P_in hP (in_let (cx := [(aL, .inr (1, [.ref aB, .int ln])), (aB, .inl (cB, 1024, .inl lb))]) [2, 3] rfl hi_4)) (D_let (cx := [(aL, .inr (1, [.ref aB, .int ln])), (aB, .inl (cB, 1024, .inl lb))]) hD [2, 3] (by decide) rfl hi_4 hj_4) hK hN [1, 1] rfl (ci := 1) rfl rfl rfl) rfl rfl hl.1 rfl (lv_room (Nat.le_of_ble_eq_true rfl)) d_K_find_34 ⟨Nat.zero_le _, Nat.zero_le _⟩) hP hD hS hA (in_let (cx := [(aL, .inr (1, [.ref aB, .int ln])), (aB, .inl (cB, 1024, .inl lb))]) [2, 3] rfl hi_4) (fun r_4 H locs hw hP hS => ?_)
          obtain ⟨hw, hz_4⟩ := hw
          subst r_4
          refine lv_if_eq (tgt := 43) hx hb d_K_find_37 (by decide) (fun c_5 => ?_) (fun c_5 => ?_)
          · rw [if_pos c_5] at hf
            refine lv_iinc (v := x4 + (1 : Int32)) (lv' := [(4, .int (x4 + (1 : Int32))), (5, .ref z_2), (0, .ref aN), (1, .ref aL), (2, .int x2), (3, .int x3)]) hx hb d_K_find_43 hl (k := 5) rfl rfl (by decide) rfl (fun ls hl => ?_)
            refine lv_goto (tgt := 3) hx hb d_K_find_46 (by decide) ?_
            exact ih kn kq ln lb ns x2 x3 (x4 + (1 : Int32)) H locs ls hf (hP.part (cx := [(aN, .inr (4, [.ref aQ, .int kn, .int kp])), (aQ, .inl (cQ, 256, .inr (.inr (.inr (.inr kq))))), (aL, .inr (1, [.ref aB, .int ln])), (aB, .inl (cB, 1024, .inl lb))]) [0, 1, 2, 3] rfl) (hD.part (cx := [(aN, .inr (4, [.ref aQ, .int kn, .int kp])), (aQ, .inl (cQ, 256, .inr (.inr (.inr (.inr kq))))), (aL, .inr (1, [.ref aB, .int ln])), (aB, .inl (cB, 1024, .inl lb))]) [0, 1, 2, 3] (by decide) rfl) hS (lv_sub hl [2, 3, 4, 5, 0] rfl)
          · rw [if_neg c_5] at hf
            refine lv_aload hx hb d_K_find_40 (lv_at hl 0 rfl) ?_
            have ho := Option.some.inj hf
            subst o
            have hP9 := hP.part (cx := [(aN, .inr (4, [.ref aQ, .int kn, .int kp])), (aQ, .inl (cQ, 256, .inr (.inr (.inr (.inr kq))))), (aL, .inr (1, [.ref aB, .int ln])), (aB, .inl (cB, 1024, .inl lb))]) [0, 1, 2, 3] rfl
            have hD9 := hD.part (cx := [(aN, .inr (4, [.ref aQ, .int kn, .int kp])), (aQ, .inl (cQ, 256, .inr (.inr (.inr (.inr kq))))), (aL, .inr (1, [.ref aB, .int ln])), (aB, .inl (cB, 1024, .inl lb))]) [0, 1, 2, 3] (by decide) rfl
            exact W.aret (v := .ref z_2) hx hb hr (Or.inl ⟨_, rfl⟩) (Or.inr ⟨_, rfl⟩) (fun t ht hW => ⟨⟨some z_2, (), rfl, rfl, by rw [ht]; exact hP9, va_K.moved hW.alike hK, hD9⟩, hS.F ht⟩) hS.2.2 d_K_find_42
  rw [f_K_find] at hf
  refine lv_iconst (v := (0 : Int32)) hx hb d_K_find_0 (by decide) ?_
  refine lv_istore (lv' := [(4, .int (0 : Int32)), (0, .ref aN), (1, .ref aL), (2, .int p1), (3, .int p2)]) hx hb d_K_find_1 hl (by decide) rfl (fun ls hl => ?_)
  exact loop_3 FU kn kq ln lb ns p1 p2 (0 : Int32) s.heap [] ls hf (hP.part (cx := [(aN, .inr (4, [.ref aQ, .int kn, .int kp])), (aQ, .inl (cQ, 256, .inr (.inr (.inr (.inr kq))))), (aL, .inr (1, [.ref aB, .int ln])), (aB, .inl (cB, 1024, .inl lb))]) [0, 1, 2, 3] rfl) (hD.part (cx := [(aN, .inr (4, [.ref aQ, .int kn, .int kp])), (aQ, .inl (cQ, 256, .inr (.inr (.inr (.inr kq))))), (aL, .inr (1, [.ref aB, .int ln])), (aB, .inl (cB, 1024, .inl lb))]) [0, 1, 2, 3] (by decide) rfl) hS (lv_sub hl [1, 2, 3, 4, 0] rfl)
