theorem wb_373 : Cond.classLink R_K 11 R_N ∈ WB := wbm (i := 129) (by decide +kernel) rfl
theorem wb_374 : Cond.instantiable R_N 4 ∈ WB := wbm (i := 339) (by decide +kernel) rfl
theorem wb_375 : Cond.initialized R_N ∈ WB := wbm (i := 58) (by decide +kernel) rfl
theorem wb_376 : Cond.methodLink R_K 38 y_L_copy ∈ WB := wbm (i := 340) (by decide +kernel) rfl
theorem wb_377 : Cond.instanceMethod y_L_copy ∈ WB := wbm (i := 341) (by decide +kernel) rfl
theorem wb_378 : Cond.selects R_L y_L_copy y_L_copy ∈ WB := wbm (i := 342) (by decide +kernel) rfl
theorem wb_379 : Cond.code y_L_copy b_L_copy 3 (some (.array .byte)) ∈ WB := wbm (i := 343) (by decide +kernel) rfl
theorem wb_380 : Cond.code y_N_init b_N_init 6 none ∈ WB := wbm (i := 648) (by decide +kernel) rfl
theorem wb_381 : Cond.methodLink R_K 42 y_N_init ∈ WB := wbm (i := 646) (by decide +kernel) rfl
theorem wb_382 : Cond.instanceMethod y_N_init ∈ WB := wbm (i := 647) (by decide +kernel) rfl
theorem wb_383 : Cond.methodLink R_K 45 y_K_add ∈ WB := wbm (i := 668) (by decide +kernel) rfl
theorem wb_384 : Cond.instanceMethod y_K_add ∈ WB := wbm (i := 670) (by decide +kernel) rfl
theorem wb_385 : Cond.selects R_K y_K_add y_K_add ∈ WB := wbm (i := 10) (by decide +kernel) rfl
theorem wb_386 : Cond.code y_K_add b_K_add 2 (some .boolean) ∈ WB := wbm (i := 671) (by decide +kernel) rfl
theorem wb_387 : Cond.fieldLink R_K 21 R_K "placesGiven" "I" ∈ WB := wbm (i := 133) (by decide +kernel) rfl
/-- a name that was just laid is found -/
theorem nsg_last {ns : List NmR} {r : NmR} : ∃ x, nsg (ns ++ [r]) r.1 = some x := by
  unfold nsg
  cases h : (ns ++ [r]).find? (fun q => q.1 == r.1) with
  | some x => exact ⟨x, rfl⟩
  | none =>
    have h1 := List.find?_eq_none.mp h r (List.mem_append_right _ List.mem_cons_self)
    simp at h1
theorem add_new {kn : Int32} {kq : Nat → Option Nat} {ns : List NmR} {z la n : Nat} {f : Nat → Int32} {b : Int32} {w : Int64} {p : Int32} (h : kn < (256 : Int32) ∧ ¬ kn < 0) : f_K_add kn kq (ns ++ [(z, la, n, f, b, w, p)]) z = some ((1 : Int32), kn + (1 : Int32), va_up kq kn.toNatClampNeg (some z)) := by
  obtain ⟨x, hx⟩ := nsg_last (ns := ns) (r := (z, la, n, f, b, w, p))
  have hx : nsg (ns ++ [(z, la, n, f, b, w, p)]) z = some x := hx
  rw [f_K_add, if_pos h.1, hx]
  show gi kn 256 _ = _
  unfold gi
  rw [if_neg]
  intro q
  rcases q with q | q
  · exact h.2 q
  · have h3 : kn.toInt < 256 := Int32.lt_iff_toInt_lt.mp h.1
    have h4 : ¬ kn.toInt < 0 := fun z => h.2 (Int32.lt_iff_toInt_lt.mpr z)
    have h5 : kn.toNatClampNeg = kn.toInt.toNat := rfl
    omega
theorem np_app (cB : ClassId) (ns : List NmR) (r : NmR) : np cB (ns ++ [r]) = np cB ns ++ [(r.1, nmE r), (r.2.1, ltE cB r)] := by
  unfold np
  rw [List.flatMap_append]
  rfl
theorem np_push {D : va_G} {cl : List vw_C} {X : va_W} {cB : ClassId} {ns : List NmR} {r : NmR} {H : Heap} (h : va_P D cl ((X ++ [(r.1, nmE r), (r.2.1, ltE cB r)]) ++ np cB ns) H) : va_P D cl (X ++ np cB (ns ++ [r])) H := by
  rw [np_app, ← List.append_assoc]
  exact va_P.swap h
theorem np_pushD {A : Nat → Prop} {X : va_W} {cB : ClassId} {ns : List NmR} {r : NmR} (h : va_D A ((X ++ [(r.1, nmE r), (r.2.1, ltE cB r)]) ++ np cB ns)) : va_D A (X ++ np cB (ns ++ [r])) := by
  rw [np_app, ← List.append_assoc]
  exact va_D.swap h

set_option maxHeartbeats 4000000 in
set_option maxRecDepth 100000 in
theorem c_K_learn_new (l : Launch) (dC : Nat → ClassId) (dI : Nat → Nat → Nat) (aN aQ aL aB : Nat) (cQ cB : ClassId) (sz : Nat) (kn : Int32) (kp : Int32) (kq : Nat → Option Nat) (ln : Int32) (lb : Nat → Int32) (ns : List NmR) (p3 : Int32) (p4 : Int64) (b n : Nat) (hbn : b + n ≤ 1024) (hn : n ≤ 63) (hfit : ∀ j, fits .byte (.int (lb j)) = true) (hle : nI (b + n) ≤ ln) (hkn : kn < (256 : Int32) ∧ ¬ kn < 0) (hz : narrow .boolean (.int p3) = .int p3) (o_1 : Option Nat) (hM_1 : f_K_find kn kq ln lb ns (nI b) (nI (b + n)) = some o_1) (h_2 : o_1 = none) : Met l y_K_learn (w_K_learn) ({ frames := 5, cells := 2, slots := 67, locals := 180 }) (va_Pc [.ref aN, .ref aL, .int (nI b), .int (nI (b + n)), .int p3, .long p4] (fun U => U.heap.size = sz ∧ va_P (dC, dI) vwCl (([(aN, .inr (4, [.ref aQ, .int kn, .int kp])), (aQ, .inl (cQ, 256, .inr (.inr (.inr (.inr kq))))), (aL, .inr (1, [.ref aB, .int ln])), (aB, .inl (cB, 1024, .inl lb))] : va_W) ++ np cB ns) U.heap ∧ va_K (dC, dI) vwCl [(cQ, (.object "ExpressionReader$Name")), (cB, .byte)] U ∧ va_D (fun _ => True) (([(aN, .inr (4, [.ref aQ, .int kn, .int kp])), (aQ, .inl (cQ, 256, .inr (.inr (.inr (.inr kq))))), (aL, .inr (1, [.ref aB, .int ln])), (aB, .inl (cB, 1024, .inl lb))] : va_W) ++ np cB ns) ∧ NW U)) (va_Qi (fun (r : Int32) (_ : Nat × Nat) => r = (1 : Int32) ∧ narrow .boolean (.int r) = .int r) (fun u t => va_P (dC, dI) vwCl (([(aN, .inr (4, [.ref aQ, .int (kn + (1 : Int32)), .int kp])), (aQ, .inl (cQ, 256, .inr (.inr (.inr (.inr (va_up kq kn.toNatClampNeg (some u.1))))))), (aL, .inr (1, [.ref aB, .int ln])), (aB, .inl (cB, 1024, .inl lb))] : va_W) ++ np cB (ns ++ [(u.1, u.2, n, cpB lb b n, p3, p4, (-1 : Int32))])) t.heap ∧ va_K (dC, dI) vwCl [(cQ, (.object "ExpressionReader$Name")), (cB, .byte)] t ∧ va_D (va_A (([(aN, .inr (4, [.ref aQ, .int kn, .int kp])), (aQ, .inl (cQ, 256, .inr (.inr (.inr (.inr kq))))), (aL, .inr (1, [.ref aB, .int ln])), (aB, .inl (cB, 1024, .inl lb))] : va_W) ++ np cB ns) sz) (([(aN, .inr (4, [.ref aQ, .int (kn + (1 : Int32)), .int kp])), (aQ, .inl (cQ, 256, .inr (.inr (.inr (.inr (va_up kq kn.toNatClampNeg (some u.1))))))), (aL, .inr (1, [.ref aB, .int ln])), (aB, .inl (cB, 1024, .inl lb))] : va_W) ++ np cB (ns ++ [(u.1, u.2, n, cpB lb b n, p3, p4, (-1 : Int32))]))) (va_A (([(aN, .inr (4, [.ref aQ, .int kn, .int kp])), (aQ, .inl (cQ, 256, .inr (.inr (.inr (.inr kq))))), (aL, .inr (1, [.ref aB, .int ln])), (aB, .inl (cB, 1024, .inl lb))] : va_W) ++ np cB ns) sz)) 2 67 (va_A (([(aN, .inr (4, [.ref aQ, .int kn, .int kp])), (aQ, .inl (cQ, 256, .inr (.inr (.inr (.inr kq))))), (aL, .inr (1, [.ref aB, .int ln])), (aB, .inl (cB, 1024, .inl lb))] : va_W) ++ np cB ns) sz) := by
  refine Met.ofW (cc := b_K_learn) (maxL := 7) (ret := (some .boolean)) (by decide) rfl ?_
  intro p e s m args below meth c s₁ B hml hv
  obtain ⟨rfl, hsz, hP, hK, hD0, hN⟩ := hv
  have hx := B.exec
  have hb := B.bytes
  have hr := B.returns
  have hts : ∀ w ∈ WB, w.before _ s = true := fun w h => atoms_spec (ws := w_K_learn) B.pre w (List.mem_cons_of_mem _ h)
  have hown : s.vm.findClass R_K = some m.cls := findClass_of_methodNamed B.named
  have hlocks := B.notSynchronized
  subst hsz
  have hD := hD0.self (sz := s.heap.size)
  generalize hAe : va_A (([(aN, .inr (4, [.ref aQ, .int kn, .int kp])), (aQ, .inl (cQ, 256, .inr (.inr (.inr (.inr kq))))), (aL, .inr (1, [.ref aB, .int ln])), (aB, .inl (cB, 1024, .inl lb))] : va_W) ++ np cB ns) s.heap.size = A at hD ⊢
  have hA : ∀ q : Nat, s.heap.size ≤ q → A q := fun q h => by rw [← hAe]; exact Or.inr h
  have hS : va_S A s.heap s.heap [] := va_S.rf
  have hP : va_P (dC, dI) vwCl (([(aN, .inr (4, [.ref aQ, .int kn, .int kp])), (aQ, .inl (cQ, 256, .inr (.inr (.inr (.inr kq))))), (aL, .inr (1, [.ref aB, .int ln])), (aB, .inl (cB, 1024, .inl lb))] : va_W) ++ np cB ns) s.heap := hP
  have hl := lv_entry [.ref aN, .ref aL, .int (nI b), .int (nI (b + n)), .int p3, .long p4] (n := 7) (Nat.le_of_ble_eq_true rfl)
  rw [lg_entry_eq]
  generalize (lg_sl [.ref aN, .ref aL, .int (nI b), .int (nI (b + n)), .int p3, .long p4] ++ List.replicate (7 - (lg_sl [.ref aN, .ref aL, .int (nI b), .int (nI (b + n)), .int p3, .long p4]).length) Slot.unset).toArray = ls at hl ⊢
  have hl : lv_has ls 7 [(0, .ref aN), (1, .ref aL), (2, .int (nI b)), (3, .int (nI (b + n))), (4, .int p3), (5, .long p4)] := hl
  refine lv_aload_n hx hb d_K_learn_0 rfl (lv_at hl 0 rfl) ?_
  refine lv_aload_n hx hb d_K_learn_1 rfl (lv_at hl 1 rfl) ?_
  refine lv_iload_n hx hb d_K_learn_2 rfl (lv_at hl 2 rfl) ?_
  refine lv_iload_n hx hb d_K_learn_3 rfl (lv_at hl 3 rfl) ?_
  refine cr_q (va_runV (As := [.ref aL, .int (nI b), .int (nI (b + n))]) (rest := []) ⟨hx, hb, hml, hown, hts⟩ (c_K_find l dC dI aN aQ aL aB cQ cB s.heap.size kn kp kq ln lb ns (nI b) (nI (b + n)) o_1 hM_1) (cwV 3 hts (gwV wb_312 wb_314 wb_315 wb_316 wb_313) rfl rfl rfl (by decide +kernel) ⟨Nat.le_of_ble_eq_true rfl, Nat.le_of_ble_eq_true rfl⟩) (pr_V (hP.part [0, 1, 2, 3] rfl) (hD.part [0, 1, 2, 3] (by decide) rfl) hK hN [0, 1] rfl (ci := 4) rfl rfl rfl) rfl rfl hl.1 rfl (lv_room (Nat.le_of_ble_eq_true rfl)) d_K_learn_4 ⟨Nat.le_of_ble_eq_true rfl, Nat.le_of_ble_eq_true rfl⟩) hP hD hS hA (in_pool [0, 1, 2, 3] rfl) (fun r_1 H locs hw hP hS => ?_)
  subst r_1
  rw [h_2]
  refine W.eq (g2 := F0 m 7 ls [.null]) rfl ?_
  refine lv_ifnullN (tgt := 12) hx hb d_K_learn_7 (by decide) ?_
  refine lv_aload_n hx hb d_K_learn_12 rfl (lv_at hl 0 rfl) ?_
  refine va_new (ci := 3) (fs := [.null, .int 0, .long 0, .int 0]) (C := R_N) (T := F_N) (N := 4) hx hb hts i_N ft_N tk_N hown (hts _ wb_373) (hts _ wb_374) (hts _ wb_375) hK hP hD hS hA rfl (fun j hj => by rcases (show j = 0 ∨ j = 1 ∨ j = 2 ∨ j = 3 by omega) with rfl | rfl | rfl | rfl <;> rfl) (Nat.le_of_ble_eq_true rfl) (Nat.le_of_ble_eq_true rfl) d_K_learn_13 (fun aZ H hP hD hS => ?_)
  have hP := va_P.swap hP
  have hD := va_D.swap hD
  have hP : va_P (dC, dI) vwCl (([(aN, .inr (4, [.ref aQ, .int kn, .int kp])), (aQ, .inl (cQ, 256, .inr (.inr (.inr (.inr kq))))), (aL, .inr (1, [.ref aB, .int ln])), (aB, .inl (cB, 1024, .inl lb)), (aZ, .inr (3, [.null, .int 0, .long 0, .int 0]))] : va_W) ++ np cB ns) H := hP
  have hD : va_D A (([(aN, .inr (4, [.ref aQ, .int kn, .int kp])), (aQ, .inl (cQ, 256, .inr (.inr (.inr (.inr kq))))), (aL, .inr (1, [.ref aB, .int ln])), (aB, .inl (cB, 1024, .inl lb)), (aZ, .inr (3, [.null, .int 0, .long 0, .int 0]))] : va_W) ++ np cB ns) := hD
  refine lv_dup hx hb d_K_learn_16 rfl ?_
  refine lv_aload_n hx hb d_K_learn_17 rfl (lv_at hl 1 rfl) ?_
  refine lv_iload_n hx hb d_K_learn_18 rfl (lv_at hl 2 rfl) ?_
  refine lv_iload_n hx hb d_K_learn_19 rfl (lv_at hl 3 rfl) ?_
  refine cf_rq (wr := [(aN, .inr (4, [.ref aQ, .int kn, .int kp])), (aQ, .inl (cQ, 256, .inr (.inr (.inr (.inr kq))))), (aZ, .inr (3, [.null, .int 0, .long 0, .int 0]))]) (w1 := fun q => [(aL, .inr (1, [.ref aB, .int ln])), (aB, .inl (cB, 1024, .inl lb)), (q, .inl (cB, n, .inl (cpB lb b n)))]) (va_runV (As := [.int (nI b), .int (nI (b + n))]) (rest := [.ref aZ, .ref aZ, .ref aN]) ⟨hx, hb, hml, hown, hts⟩ (c_L_copy l dC dI aL aB cB H.size ln lb b n hbn hn hfit hle) (cwV 2 hts (gwV wb_376 wb_377 wb_378 wb_6 wb_379) rfl rfl rfl (by decide +kernel) ⟨Nat.le_of_ble_eq_true rfl, Nat.le_of_ble_eq_true rfl⟩) (pr_V (hP.sub [2, 3] rfl) (hD.sub [2, 3] (by decide) rfl) hK hN [1] rfl (ci := 1) rfl rfl rfl) rfl rfl hl.1 rfl (lv_room (Nat.le_of_ble_eq_true rfl)) d_K_learn_20 ⟨Nat.le_of_ble_eq_true rfl, Nat.le_of_ble_eq_true rfl⟩) hP hD hS hA [2, 3] [0, 1, 4] rfl rfl rfl (by decide) (by decide) (fun aA H locs hP hD hS => ?_)
  have hP : va_P (dC, dI) vwCl (([(aN, .inr (4, [.ref aQ, .int kn, .int kp])), (aQ, .inl (cQ, 256, .inr (.inr (.inr (.inr kq))))), (aZ, .inr (3, [.null, .int 0, .long 0, .int 0])), (aL, .inr (1, [.ref aB, .int ln])), (aB, .inl (cB, 1024, .inl lb)), (aA, .inl (cB, n, .inl (cpB lb b n)))] : va_W) ++ np cB ns) H := hP
  have hD : va_D A (([(aN, .inr (4, [.ref aQ, .int kn, .int kp])), (aQ, .inl (cQ, 256, .inr (.inr (.inr (.inr kq))))), (aZ, .inr (3, [.null, .int 0, .long 0, .int 0])), (aL, .inr (1, [.ref aB, .int ln])), (aB, .inl (cB, 1024, .inl lb)), (aA, .inl (cB, n, .inl (cpB lb b n)))] : va_W) ++ np cB ns) := hD
  refine lv_iload hx hb d_K_learn_23 (lv_at hl 4 rfl) ?_
  refine lv_lload hx hb d_K_learn_25 (lv_at hl 5 rfl) ?_
  refine lv_iconst (v := (-1 : Int32)) hx hb d_K_learn_27 (by decide) ?_
  refine cq_v (wr := [(aN, .inr (4, [.ref aQ, .int kn, .int kp])), (aQ, .inl (cQ, 256, .inr (.inr (.inr (.inr kq))))), (aL, .inr (1, [.ref aB, .int ln])), (aB, .inl (cB, 1024, .inl lb)), (aA, .inl (cB, n, .inl (cpB lb b n)))]) (va_runI (As := [.ref aA, .int p3, .long p4, .int (-1 : Int32)]) (rest := [.ref aZ, .ref aN]) ⟨hx, hb, hml, hown, hts⟩ (c_N_init l dC dI aZ aA H.size p3 p4 (-1 : Int32) hz) (cwI 4 hts (gwI wb_380) rfl rfl rfl (hts _ wb_375) (hts _ wb_381) (hts _ wb_382) rfl (by decide +kernel) ⟨Nat.le_of_ble_eq_true rfl, Nat.le_of_ble_eq_true rfl⟩) (pr_S (hP.sub [2] rfl) (hD.sub [2] (by decide) rfl) hK hN [] rfl) rfl rfl hl.1 rfl (lv_room (Nat.le_of_ble_eq_true rfl)) d_K_learn_28 ⟨Nat.le_of_ble_eq_true rfl, Nat.le_of_ble_eq_true rfl⟩) hP hD hS hA [2] [0, 1, 3, 4, 5] rfl rfl rfl (by decide) (by decide) (fun H locs hw hP hD hS => ?_)
  have hP : va_P (dC, dI) vwCl (([(aN, .inr (4, [.ref aQ, .int kn, .int kp])), (aQ, .inl (cQ, 256, .inr (.inr (.inr (.inr kq))))), (aL, .inr (1, [.ref aB, .int ln])), (aB, .inl (cB, 1024, .inl lb)), (aA, .inl (cB, n, .inl (cpB lb b n))), (aZ, .inr (3, [.ref aA, .int p3, .long p4, .int (-1 : Int32)]))] : va_W) ++ np cB ns) H := hP
  have hD : va_D A (([(aN, .inr (4, [.ref aQ, .int kn, .int kp])), (aQ, .inl (cQ, 256, .inr (.inr (.inr (.inr kq))))), (aL, .inr (1, [.ref aB, .int ln])), (aB, .inl (cB, 1024, .inl lb)), (aA, .inl (cB, n, .inl (cpB lb b n))), (aZ, .inr (3, [.ref aA, .int p3, .long p4, .int (-1 : Int32)]))] : va_W) ++ np cB ns) := hD
  have hP : va_P (dC, dI) vwCl (([(aN, .inr (4, [.ref aQ, .int kn, .int kp])), (aQ, .inl (cQ, 256, .inr (.inr (.inr (.inr kq))))), (aL, .inr (1, [.ref aB, .int ln])), (aB, .inl (cB, 1024, .inl lb))] : va_W) ++ np cB (ns ++ [(aZ, aA, n, cpB lb b n, p3, p4, (-1 : Int32))])) H := np_push (hP.part (cx := ([(aN, .inr (4, [.ref aQ, .int kn, .int kp])), (aQ, .inl (cQ, 256, .inr (.inr (.inr (.inr kq))))), (aL, .inr (1, [.ref aB, .int ln])), (aB, .inl (cB, 1024, .inl lb))] : va_W) ++ ([(aZ, nmE (aZ, aA, n, cpB lb b n, p3, p4, (-1 : Int32))), (aA, ltE cB (aZ, aA, n, cpB lb b n, p3, p4, (-1 : Int32)))] : va_W)) [0, 1, 2, 3, 5, 4] rfl)
  have hD : va_D A (([(aN, .inr (4, [.ref aQ, .int kn, .int kp])), (aQ, .inl (cQ, 256, .inr (.inr (.inr (.inr kq))))), (aL, .inr (1, [.ref aB, .int ln])), (aB, .inl (cB, 1024, .inl lb))] : va_W) ++ np cB (ns ++ [(aZ, aA, n, cpB lb b n, p3, p4, (-1 : Int32))])) := np_pushD (hD.part (cx := ([(aN, .inr (4, [.ref aQ, .int kn, .int kp])), (aQ, .inl (cQ, 256, .inr (.inr (.inr (.inr kq))))), (aL, .inr (1, [.ref aB, .int ln])), (aB, .inl (cB, 1024, .inl lb))] : va_W) ++ ([(aZ, nmE (aZ, aA, n, cpB lb b n, p3, p4, (-1 : Int32))), (aA, ltE cB (aZ, aA, n, cpB lb b n, p3, p4, (-1 : Int32)))] : va_W)) [0, 1, 2, 3, 5, 4] (by decide) rfl)
  refine cp_i (wr := [(aL, .inr (1, [.ref aB, .int ln])), (aB, .inl (cB, 1024, .inl lb))]) (va_runV (As := [.ref aZ]) (rest := []) ⟨hx, hb, hml, hown, hts⟩ (c_K_add l dC dI aN aQ cQ cB H.size kn kp kq (ns ++ [(aZ, aA, n, cpB lb b n, p3, p4, (-1 : Int32))]) aZ _ (add_new hkn)) (cwV 1 hts (gwV wb_383 wb_384 wb_385 wb_316 wb_386) rfl rfl rfl (by decide +kernel) ⟨Nat.le_of_ble_eq_true rfl, Nat.le_of_ble_eq_true rfl⟩) (pr_V (hP.part [0, 1] rfl) (hD.part [0, 1] (by decide) rfl) hK hN [0, 1] rfl (ci := 4) rfl rfl rfl) rfl rfl hl.1 rfl (lv_room (Nat.le_of_ble_eq_true rfl)) d_K_learn_31 ⟨Nat.le_of_ble_eq_true rfl, Nat.le_of_ble_eq_true rfl⟩) hP hD hS hA [0, 1] [2, 3] rfl rfl (by decide) (by decide) (fun r_a H locs hw hP hD hS => ?_)
  obtain ⟨hw, hz_a⟩ := hw
  subst r_a
  have hP : va_P (dC, dI) vwCl (([(aL, .inr (1, [.ref aB, .int ln])), (aB, .inl (cB, 1024, .inl lb)), (aN, .inr (4, [.ref aQ, .int (kn + (1 : Int32)), .int kp])), (aQ, .inl (cQ, 256, .inr (.inr (.inr (.inr (va_up kq kn.toNatClampNeg (some aZ)))))))] : va_W) ++ np cB (ns ++ [(aZ, aA, n, cpB lb b n, p3, p4, (-1 : Int32))])) H := hP
  have hD : va_D A (([(aL, .inr (1, [.ref aB, .int ln])), (aB, .inl (cB, 1024, .inl lb)), (aN, .inr (4, [.ref aQ, .int (kn + (1 : Int32)), .int kp])), (aQ, .inl (cQ, 256, .inr (.inr (.inr (.inr (va_up kq kn.toNatClampNeg (some aZ)))))))] : va_W) ++ np cB (ns ++ [(aZ, aA, n, cpB lb b n, p3, p4, (-1 : Int32))])) := hD
  have hP9 := hP.part (cx := [(aN, .inr (4, [.ref aQ, .int (kn + (1 : Int32)), .int kp])), (aQ, .inl (cQ, 256, .inr (.inr (.inr (.inr (va_up kq kn.toNatClampNeg (some aZ))))))), (aL, .inr (1, [.ref aB, .int ln])), (aB, .inl (cB, 1024, .inl lb))]) [2, 3, 0, 1] rfl
  have hD9 := hD.part (cx := [(aN, .inr (4, [.ref aQ, .int (kn + (1 : Int32)), .int kp])), (aQ, .inl (cQ, 256, .inr (.inr (.inr (.inr (va_up kq kn.toNatClampNeg (some aZ))))))), (aL, .inr (1, [.ref aB, .int ln])), (aB, .inl (cB, 1024, .inl lb))]) [2, 3, 0, 1] (by decide) rfl
  refine W.widen (k := 2) (n := 67) (by omega) (by omega) ?_
  exact W.zret (v := (1 : Int32)) (ty := .boolean) hx hb hr rfl (fun t ht hW => ⟨⟨(1 : Int32), (aZ, aA), rfl, ⟨rfl, rfl⟩, by rw [ht]; exact hP9, va_K.moved hW.alike hK, hD9⟩, hS.F ht⟩) hS.2.2 d_K_learn_34

set_option maxHeartbeats 4000000 in
set_option maxRecDepth 100000 in
theorem c_K_placeFor_new (l : Launch) (dC : Nat → ClassId) (dI : Nat → Nat → Nat) (aN aQ aL aB : Nat) (cQ cB : ClassId) (sz : Nat) (kn : Int32) (kp : Int32) (kq : Nat → Option Nat) (ln : Int32) (lb : Nat → Int32) (ns : List NmR) (b n : Nat) (hbn : b + n ≤ 1024) (hn : n ≤ 63) (hfit : ∀ j, fits .byte (.int (lb j)) = true) (hle : nI (b + n) ≤ ln) (hkn : kn < (256 : Int32) ∧ ¬ kn < 0) (o_1 : Option Nat) (hM_1 : f_K_find kn kq ln lb ns (nI b) (nI (b + n)) = some o_1) (h_2 : o_1 = none) : Met l y_K_placeFor (w_K_placeFor) ({ frames := 5, cells := 2, slots := 67, locals := 180 }) (va_Pc [.ref aN, .ref aL, .int (nI b), .int (nI (b + n))] (fun U => U.heap.size = sz ∧ va_P (dC, dI) vwCl (([(aN, .inr (4, [.ref aQ, .int kn, .int kp])), (aQ, .inl (cQ, 256, .inr (.inr (.inr (.inr kq))))), (aL, .inr (1, [.ref aB, .int ln])), (aB, .inl (cB, 1024, .inl lb))] : va_W) ++ np cB ns) U.heap ∧ va_K (dC, dI) vwCl [(cQ, (.object "ExpressionReader$Name")), (cB, .byte)] U ∧ va_D (fun _ => True) (([(aN, .inr (4, [.ref aQ, .int kn, .int kp])), (aQ, .inl (cQ, 256, .inr (.inr (.inr (.inr kq))))), (aL, .inr (1, [.ref aB, .int ln])), (aB, .inl (cB, 1024, .inl lb))] : va_W) ++ np cB ns) ∧ NW U)) (va_Qi (fun (r : Int32) (_ : Nat × Nat) => r = kp + (1 : Int32) - (1 : Int32)) (fun u t => va_P (dC, dI) vwCl (([(aN, .inr (4, [.ref aQ, .int (kn + (1 : Int32)), .int (kp + (1 : Int32))])), (aQ, .inl (cQ, 256, .inr (.inr (.inr (.inr (va_up kq kn.toNatClampNeg (some u.1))))))), (aL, .inr (1, [.ref aB, .int ln])), (aB, .inl (cB, 1024, .inl lb))] : va_W) ++ np cB (ns ++ [(u.1, u.2, n, cpB lb b n, (0 : Int32), (0 : Int64), kp)])) t.heap ∧ va_K (dC, dI) vwCl [(cQ, (.object "ExpressionReader$Name")), (cB, .byte)] t ∧ va_D (va_A (([(aN, .inr (4, [.ref aQ, .int kn, .int kp])), (aQ, .inl (cQ, 256, .inr (.inr (.inr (.inr kq))))), (aL, .inr (1, [.ref aB, .int ln])), (aB, .inl (cB, 1024, .inl lb))] : va_W) ++ np cB ns) sz) (([(aN, .inr (4, [.ref aQ, .int (kn + (1 : Int32)), .int (kp + (1 : Int32))])), (aQ, .inl (cQ, 256, .inr (.inr (.inr (.inr (va_up kq kn.toNatClampNeg (some u.1))))))), (aL, .inr (1, [.ref aB, .int ln])), (aB, .inl (cB, 1024, .inl lb))] : va_W) ++ np cB (ns ++ [(u.1, u.2, n, cpB lb b n, (0 : Int32), (0 : Int64), kp)]))) (va_A (([(aN, .inr (4, [.ref aQ, .int kn, .int kp])), (aQ, .inl (cQ, 256, .inr (.inr (.inr (.inr kq))))), (aL, .inr (1, [.ref aB, .int ln])), (aB, .inl (cB, 1024, .inl lb))] : va_W) ++ np cB ns) sz)) 2 67 (va_A (([(aN, .inr (4, [.ref aQ, .int kn, .int kp])), (aQ, .inl (cQ, 256, .inr (.inr (.inr (.inr kq))))), (aL, .inr (1, [.ref aB, .int ln])), (aB, .inl (cB, 1024, .inl lb))] : va_W) ++ np cB ns) sz) := by
  refine Met.ofW (cc := b_K_placeFor) (maxL := 5) (ret := (some .int)) (by decide) rfl ?_
  intro p e s m args below meth c s₁ B hml hv
  obtain ⟨rfl, hsz, hP, hK, hD0, hN⟩ := hv
  have hx := B.exec
  have hb := B.bytes
  have hr := B.returns
  have hts : ∀ w ∈ WB, w.before _ s = true := fun w h => atoms_spec (ws := w_K_placeFor) B.pre w (List.mem_cons_of_mem _ h)
  have hown : s.vm.findClass R_K = some m.cls := findClass_of_methodNamed B.named
  have hlocks := B.notSynchronized
  subst hsz
  have hD := hD0.self (sz := s.heap.size)
  generalize hAe : va_A (([(aN, .inr (4, [.ref aQ, .int kn, .int kp])), (aQ, .inl (cQ, 256, .inr (.inr (.inr (.inr kq))))), (aL, .inr (1, [.ref aB, .int ln])), (aB, .inl (cB, 1024, .inl lb))] : va_W) ++ np cB ns) s.heap.size = A at hD ⊢
  have hA : ∀ q : Nat, s.heap.size ≤ q → A q := fun q h => by rw [← hAe]; exact Or.inr h
  have hS : va_S A s.heap s.heap [] := va_S.rf
  have hP : va_P (dC, dI) vwCl (([(aN, .inr (4, [.ref aQ, .int kn, .int kp])), (aQ, .inl (cQ, 256, .inr (.inr (.inr (.inr kq))))), (aL, .inr (1, [.ref aB, .int ln])), (aB, .inl (cB, 1024, .inl lb))] : va_W) ++ np cB ns) s.heap := hP
  have hl := lv_entry [.ref aN, .ref aL, .int (nI b), .int (nI (b + n))] (n := 5) (Nat.le_of_ble_eq_true rfl)
  rw [lg_entry_eq]
  generalize (lg_sl [.ref aN, .ref aL, .int (nI b), .int (nI (b + n))] ++ List.replicate (5 - (lg_sl [.ref aN, .ref aL, .int (nI b), .int (nI (b + n))]).length) Slot.unset).toArray = ls at hl ⊢
  have hl : lv_has ls 5 [(0, .ref aN), (1, .ref aL), (2, .int (nI b)), (3, .int (nI (b + n)))] := hl
  refine lv_aload_n hx hb d_K_placeFor_0 rfl (lv_at hl 0 rfl) ?_
  refine lv_aload_n hx hb d_K_placeFor_1 rfl (lv_at hl 1 rfl) ?_
  refine lv_iload_n hx hb d_K_placeFor_2 rfl (lv_at hl 2 rfl) ?_
  refine lv_iload_n hx hb d_K_placeFor_3 rfl (lv_at hl 3 rfl) ?_
  refine cr_q (va_runV (As := [.ref aL, .int (nI b), .int (nI (b + n))]) (rest := []) ⟨hx, hb, hml, hown, hts⟩ (c_K_find l dC dI aN aQ aL aB cQ cB s.heap.size kn kp kq ln lb ns (nI b) (nI (b + n)) o_1 hM_1) (cwV 3 hts (gwV wb_312 wb_314 wb_315 wb_316 wb_313) rfl rfl rfl (by decide +kernel) ⟨Nat.le_of_ble_eq_true rfl, Nat.le_of_ble_eq_true rfl⟩) (pr_V (hP.part [0, 1, 2, 3] rfl) (hD.part [0, 1, 2, 3] (by decide) rfl) hK hN [0, 1] rfl (ci := 4) rfl rfl rfl) rfl rfl hl.1 rfl (lv_room (Nat.le_of_ble_eq_true rfl)) d_K_placeFor_4 ⟨Nat.le_of_ble_eq_true rfl, Nat.le_of_ble_eq_true rfl⟩) hP hD hS hA (in_pool [0, 1, 2, 3] rfl) (fun r_1 H locs hw hP hS => ?_)
  subst r_1
  rw [h_2]
  refine W.eq (g2 := F0 m 7 ls [.null]) rfl ?_
  refine lv_astoreN (lv' := [(4, .null), (0, .ref aN), (1, .ref aL), (2, .int (nI b)), (3, .int (nI (b + n)))]) hx hb d_K_placeFor_7 hl (by decide) rfl (fun ls hl => ?_)
  refine lv_aloadN hx hb d_K_placeFor_9 (lv_at hl 0 rfl) ?_
  refine lv_ifnullN (tgt := 20) hx hb d_K_placeFor_11 (by decide) ?_
  refine lv_aload_n hx hb d_K_placeFor_20 rfl (lv_at hl 1 rfl) ?_
  refine va_new (ci := 3) (fs := [.null, .int 0, .long 0, .int 0]) (C := R_N) (T := F_N) (N := 4) hx hb hts i_N ft_N tk_N hown (hts _ wb_373) (hts _ wb_374) (hts _ wb_375) hK hP hD hS hA rfl (fun j hj => by rcases (show j = 0 ∨ j = 1 ∨ j = 2 ∨ j = 3 by omega) with rfl | rfl | rfl | rfl <;> rfl) (Nat.le_of_ble_eq_true rfl) (Nat.le_of_ble_eq_true rfl) d_K_placeFor_21 (fun aZ H hP hD hS => ?_)
  have hP := va_P.swap hP
  have hD := va_D.swap hD
  have hP : va_P (dC, dI) vwCl (([(aN, .inr (4, [.ref aQ, .int kn, .int kp])), (aQ, .inl (cQ, 256, .inr (.inr (.inr (.inr kq))))), (aL, .inr (1, [.ref aB, .int ln])), (aB, .inl (cB, 1024, .inl lb)), (aZ, .inr (3, [.null, .int 0, .long 0, .int 0]))] : va_W) ++ np cB ns) H := hP
  have hD : va_D A (([(aN, .inr (4, [.ref aQ, .int kn, .int kp])), (aQ, .inl (cQ, 256, .inr (.inr (.inr (.inr kq))))), (aL, .inr (1, [.ref aB, .int ln])), (aB, .inl (cB, 1024, .inl lb)), (aZ, .inr (3, [.null, .int 0, .long 0, .int 0]))] : va_W) ++ np cB ns) := hD
  refine lv_dup hx hb d_K_placeFor_24 rfl ?_
  refine lv_aload_n hx hb d_K_placeFor_25 rfl (lv_at hl 2 rfl) ?_
  refine lv_iload_n hx hb d_K_placeFor_26 rfl (lv_at hl 3 rfl) ?_
  refine lv_iload_n hx hb d_K_placeFor_27 rfl (lv_at hl 4 rfl) ?_
  refine cf_rq (wr := [(aN, .inr (4, [.ref aQ, .int kn, .int kp])), (aQ, .inl (cQ, 256, .inr (.inr (.inr (.inr kq))))), (aZ, .inr (3, [.null, .int 0, .long 0, .int 0]))]) (w1 := fun q => [(aL, .inr (1, [.ref aB, .int ln])), (aB, .inl (cB, 1024, .inl lb)), (q, .inl (cB, n, .inl (cpB lb b n)))]) (va_runV (As := [.int (nI b), .int (nI (b + n))]) (rest := [.ref aZ, .ref aZ, .ref aN]) ⟨hx, hb, hml, hown, hts⟩ (c_L_copy l dC dI aL aB cB H.size ln lb b n hbn hn hfit hle) (cwV 2 hts (gwV wb_376 wb_377 wb_378 wb_6 wb_379) rfl rfl rfl (by decide +kernel) ⟨Nat.le_of_ble_eq_true rfl, Nat.le_of_ble_eq_true rfl⟩) (pr_V (hP.sub [2, 3] rfl) (hD.sub [2, 3] (by decide) rfl) hK hN [1] rfl (ci := 1) rfl rfl rfl) rfl rfl hl.1 rfl (lv_room (Nat.le_of_ble_eq_true rfl)) d_K_placeFor_28 ⟨Nat.le_of_ble_eq_true rfl, Nat.le_of_ble_eq_true rfl⟩) hP hD hS hA [2, 3] [0, 1, 4] rfl rfl rfl (by decide) (by decide) (fun aA H locs hP hD hS => ?_)
  have hP : va_P (dC, dI) vwCl (([(aN, .inr (4, [.ref aQ, .int kn, .int kp])), (aQ, .inl (cQ, 256, .inr (.inr (.inr (.inr kq))))), (aZ, .inr (3, [.null, .int 0, .long 0, .int 0])), (aL, .inr (1, [.ref aB, .int ln])), (aB, .inl (cB, 1024, .inl lb)), (aA, .inl (cB, n, .inl (cpB lb b n)))] : va_W) ++ np cB ns) H := hP
  have hD : va_D A (([(aN, .inr (4, [.ref aQ, .int kn, .int kp])), (aQ, .inl (cQ, 256, .inr (.inr (.inr (.inr kq))))), (aZ, .inr (3, [.null, .int 0, .long 0, .int 0])), (aL, .inr (1, [.ref aB, .int ln])), (aB, .inl (cB, 1024, .inl lb)), (aA, .inl (cB, n, .inl (cpB lb b n)))] : va_W) ++ np cB ns) := hD
  refine lv_iconst (v := (0 : Int32)) hx hb d_K_placeFor_31 (by decide) ?_
  refine lv_lconst (v := (0 : Int64)) hx hb d_K_placeFor_32 (by decide) ?_
  refine lv_aload_n hx hb d_K_placeFor_33 rfl (lv_at hl 1 rfl) ?_
  refine va_get (D := (dC, dI)) (ci := 4) (v := .int kp) (C := R_K) (T := F_K) (N := 3) hx hb hts i_K hown hK hP 0 rfl rfl 2 (by decide) (hts _ wb_387) (fun _ h9 => h9) rfl d_K_placeFor_34 ?_
  refine cq_v (wr := [(aN, .inr (4, [.ref aQ, .int kn, .int kp])), (aQ, .inl (cQ, 256, .inr (.inr (.inr (.inr kq))))), (aL, .inr (1, [.ref aB, .int ln])), (aB, .inl (cB, 1024, .inl lb)), (aA, .inl (cB, n, .inl (cpB lb b n)))]) (va_runI (As := [.ref aA, .int (0 : Int32), .long (0 : Int64), .int kp]) (rest := [.ref aZ, .ref aN]) ⟨hx, hb, hml, hown, hts⟩ (c_N_init l dC dI aZ aA H.size (0 : Int32) (0 : Int64) kp rfl) (cwI 4 hts (gwI wb_380) rfl rfl rfl (hts _ wb_375) (hts _ wb_381) (hts _ wb_382) rfl (by decide +kernel) ⟨Nat.le_of_ble_eq_true rfl, Nat.le_of_ble_eq_true rfl⟩) (pr_S (hP.sub [2] rfl) (hD.sub [2] (by decide) rfl) hK hN [] rfl) rfl rfl hl.1 rfl (lv_room (Nat.le_of_ble_eq_true rfl)) d_K_placeFor_37 ⟨Nat.le_of_ble_eq_true rfl, Nat.le_of_ble_eq_true rfl⟩) hP hD hS hA [2] [0, 1, 3, 4, 5] rfl rfl rfl (by decide) (by decide) (fun H locs hw hP hD hS => ?_)
  have hP : va_P (dC, dI) vwCl (([(aN, .inr (4, [.ref aQ, .int kn, .int kp])), (aQ, .inl (cQ, 256, .inr (.inr (.inr (.inr kq))))), (aL, .inr (1, [.ref aB, .int ln])), (aB, .inl (cB, 1024, .inl lb)), (aA, .inl (cB, n, .inl (cpB lb b n))), (aZ, .inr (3, [.ref aA, .int (0 : Int32), .long (0 : Int64), .int kp]))] : va_W) ++ np cB ns) H := hP
  have hD : va_D A (([(aN, .inr (4, [.ref aQ, .int kn, .int kp])), (aQ, .inl (cQ, 256, .inr (.inr (.inr (.inr kq))))), (aL, .inr (1, [.ref aB, .int ln])), (aB, .inl (cB, 1024, .inl lb)), (aA, .inl (cB, n, .inl (cpB lb b n))), (aZ, .inr (3, [.ref aA, .int (0 : Int32), .long (0 : Int64), .int kp]))] : va_W) ++ np cB ns) := hD
  have hP : va_P (dC, dI) vwCl (([(aN, .inr (4, [.ref aQ, .int kn, .int kp])), (aQ, .inl (cQ, 256, .inr (.inr (.inr (.inr kq))))), (aL, .inr (1, [.ref aB, .int ln])), (aB, .inl (cB, 1024, .inl lb))] : va_W) ++ np cB (ns ++ [(aZ, aA, n, cpB lb b n, (0 : Int32), (0 : Int64), kp)])) H := np_push (hP.part (cx := ([(aN, .inr (4, [.ref aQ, .int kn, .int kp])), (aQ, .inl (cQ, 256, .inr (.inr (.inr (.inr kq))))), (aL, .inr (1, [.ref aB, .int ln])), (aB, .inl (cB, 1024, .inl lb))] : va_W) ++ ([(aZ, nmE (aZ, aA, n, cpB lb b n, (0 : Int32), (0 : Int64), kp)), (aA, ltE cB (aZ, aA, n, cpB lb b n, (0 : Int32), (0 : Int64), kp))] : va_W)) [0, 1, 2, 3, 5, 4] rfl)
  have hD : va_D A (([(aN, .inr (4, [.ref aQ, .int kn, .int kp])), (aQ, .inl (cQ, 256, .inr (.inr (.inr (.inr kq))))), (aL, .inr (1, [.ref aB, .int ln])), (aB, .inl (cB, 1024, .inl lb))] : va_W) ++ np cB (ns ++ [(aZ, aA, n, cpB lb b n, (0 : Int32), (0 : Int64), kp)])) := np_pushD (hD.part (cx := ([(aN, .inr (4, [.ref aQ, .int kn, .int kp])), (aQ, .inl (cQ, 256, .inr (.inr (.inr (.inr kq))))), (aL, .inr (1, [.ref aB, .int ln])), (aB, .inl (cB, 1024, .inl lb))] : va_W) ++ ([(aZ, nmE (aZ, aA, n, cpB lb b n, (0 : Int32), (0 : Int64), kp)), (aA, ltE cB (aZ, aA, n, cpB lb b n, (0 : Int32), (0 : Int64), kp))] : va_W)) [0, 1, 2, 3, 5, 4] (by decide) rfl)
  refine cp_i (wr := [(aL, .inr (1, [.ref aB, .int ln])), (aB, .inl (cB, 1024, .inl lb))]) (va_runV (As := [.ref aZ]) (rest := []) ⟨hx, hb, hml, hown, hts⟩ (c_K_add l dC dI aN aQ cQ cB H.size kn kp kq (ns ++ [(aZ, aA, n, cpB lb b n, (0 : Int32), (0 : Int64), kp)]) aZ _ (add_new hkn)) (cwV 1 hts (gwV wb_383 wb_384 wb_385 wb_316 wb_386) rfl rfl rfl (by decide +kernel) ⟨Nat.le_of_ble_eq_true rfl, Nat.le_of_ble_eq_true rfl⟩) (pr_V (hP.part [0, 1] rfl) (hD.part [0, 1] (by decide) rfl) hK hN [0, 1] rfl (ci := 4) rfl rfl rfl) rfl rfl hl.1 rfl (lv_room (Nat.le_of_ble_eq_true rfl)) d_K_placeFor_40 ⟨Nat.le_of_ble_eq_true rfl, Nat.le_of_ble_eq_true rfl⟩) hP hD hS hA [0, 1] [2, 3] rfl rfl (by decide) (by decide) (fun r_a H locs hw hP hD hS => ?_)
  obtain ⟨hw, hz_a⟩ := hw
  subst r_a
  have hP : va_P (dC, dI) vwCl (([(aL, .inr (1, [.ref aB, .int ln])), (aB, .inl (cB, 1024, .inl lb)), (aN, .inr (4, [.ref aQ, .int (kn + (1 : Int32)), .int kp])), (aQ, .inl (cQ, 256, .inr (.inr (.inr (.inr (va_up kq kn.toNatClampNeg (some aZ)))))))] : va_W) ++ np cB (ns ++ [(aZ, aA, n, cpB lb b n, (0 : Int32), (0 : Int64), kp)])) H := hP
  have hD : va_D A (([(aL, .inr (1, [.ref aB, .int ln])), (aB, .inl (cB, 1024, .inl lb)), (aN, .inr (4, [.ref aQ, .int (kn + (1 : Int32)), .int kp])), (aQ, .inl (cQ, 256, .inr (.inr (.inr (.inr (va_up kq kn.toNatClampNeg (some aZ)))))))] : va_W) ++ np cB (ns ++ [(aZ, aA, n, cpB lb b n, (0 : Int32), (0 : Int64), kp)])) := hD
  refine lv_if_ne (tgt := 48) hx hb d_K_placeFor_43 (by decide) (fun _ => ?_) (fun q => absurd (show (1 : Int32) = 0 from q) (by decide))
  refine lv_aload_n hx hb d_K_placeFor_48 rfl (lv_at hl 1 rfl) ?_
  refine lv_dup hx hb d_K_placeFor_49 rfl ?_
  refine va_get (D := (dC, dI)) (ci := 4) (v := .int kp) (C := R_K) (T := F_K) (N := 3) hx hb hts i_K hown hK hP 2 rfl rfl 2 (by decide) (hts _ wb_387) (fun _ h9 => h9) rfl d_K_placeFor_50 ?_
  refine lv_iconst (v := (1 : Int32)) hx hb d_K_placeFor_53 (by decide) ?_
  refine lv_iadd hx hb d_K_placeFor_54 ?_
  refine va_put (D := (dC, dI)) (ci := 4) (v := .int (kp + (1 : Int32))) (ty := .int) (C := R_K) (T := F_K) (N := 3) hx hb hts i_K ft_K tk_K n_K hown hK hP hD hS 2 rfl rfl 2 (by decide) (hts _ wb_387) (fun _ h9 => h9) rfl (by decide +kernel) rfl rfl (Nat.le_of_ble_eq_true rfl) d_K_placeFor_55 (fun H locs hP hD hS => ?_)
  have hP : va_P (dC, dI) vwCl (([(aL, .inr (1, [.ref aB, .int ln])), (aB, .inl (cB, 1024, .inl lb)), (aN, .inr (4, [.ref aQ, .int (kn + (1 : Int32)), .int (kp + (1 : Int32))])), (aQ, .inl (cQ, 256, .inr (.inr (.inr (.inr (va_up kq kn.toNatClampNeg (some aZ)))))))] : va_W) ++ np cB (ns ++ [(aZ, aA, n, cpB lb b n, (0 : Int32), (0 : Int64), kp)])) H := hP
  have hD : va_D A (([(aL, .inr (1, [.ref aB, .int ln])), (aB, .inl (cB, 1024, .inl lb)), (aN, .inr (4, [.ref aQ, .int (kn + (1 : Int32)), .int (kp + (1 : Int32))])), (aQ, .inl (cQ, 256, .inr (.inr (.inr (.inr (va_up kq kn.toNatClampNeg (some aZ)))))))] : va_W) ++ np cB (ns ++ [(aZ, aA, n, cpB lb b n, (0 : Int32), (0 : Int64), kp)])) := hD
  refine lv_aload_n hx hb d_K_placeFor_58 rfl (lv_at hl 1 rfl) ?_
  refine va_get (D := (dC, dI)) (ci := 4) (v := .int (kp + (1 : Int32))) (C := R_K) (T := F_K) (N := 3) hx hb hts i_K hown hK hP 2 rfl rfl 2 (by decide) (hts _ wb_387) (fun _ h9 => h9) rfl d_K_placeFor_59 ?_
  refine lv_iconst (v := (1 : Int32)) hx hb d_K_placeFor_62 (by decide) ?_
  refine lv_isub hx hb d_K_placeFor_63 ?_
  have hP9 := hP.part (cx := [(aN, .inr (4, [.ref aQ, .int (kn + (1 : Int32)), .int (kp + (1 : Int32))])), (aQ, .inl (cQ, 256, .inr (.inr (.inr (.inr (va_up kq kn.toNatClampNeg (some aZ))))))), (aL, .inr (1, [.ref aB, .int ln])), (aB, .inl (cB, 1024, .inl lb))]) [2, 3, 0, 1] rfl
  have hD9 := hD.part (cx := [(aN, .inr (4, [.ref aQ, .int (kn + (1 : Int32)), .int (kp + (1 : Int32))])), (aQ, .inl (cQ, 256, .inr (.inr (.inr (.inr (va_up kq kn.toNatClampNeg (some aZ))))))), (aL, .inr (1, [.ref aB, .int ln])), (aB, .inl (cB, 1024, .inl lb))]) [2, 3, 0, 1] (by decide) rfl
  refine W.widen (k := 2) (n := 67) (by omega) (by omega) ?_
  exact W.iret (v := (kp + (1 : Int32)) - (1 : Int32)) hx hb hr (fun t ht hW => ⟨⟨(kp + (1 : Int32)) - (1 : Int32), (aZ, aA), rfl, by first | rfl | (simp), by rw [ht]; exact hP9, va_K.moved hW.alike hK, hD9⟩, hS.F ht⟩) hS.2.2 d_K_placeFor_64
