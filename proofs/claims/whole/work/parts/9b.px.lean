/-! Worlds over a throw -/
theorem th_static {D : va_G} {cl : List vw_C} {ws : va_W} {H : Heap} {k a : Nat} {e : va_E} {cell : Cell} (hP : va_P D cl ws H) (h : ws[k]? = some (a, e)) (hc : H[a]? = some cell) : cell.vm.isStatics = false := by
  have h1 := hP k (a, e) h
  cases e with
  | inl o =>
    have h1 : H[a]? = some (vp_cell o.1 o.2) := h1
    cases hc.symm.trans h1
    obtain ⟨cA, N, f⟩ := o
    rcases f with f | f | f | f | f <;> rfl
  | inr o =>
    obtain ⟨r, -, cell', g1, -, g3, -⟩ := h1
    cases hc.symm.trans g1
    rw [g3]; rfl
theorem th_kept {D : va_G} {cl : List vw_C} {ws : va_W} {s : State} {H : Heap} {locs : List Loc} {A : Nat → Prop} (hP : va_P D cl ws s.heap) (hA : ∀ q, A q → va_A ws s.heap.size q) (hS : va_S A s.heap H locs) : ∀ (a : Nat) (cell : Cell), s.heap[a]? = some cell → cell.vm.isStatics = true → H[a]? = some cell := by
  intro a cell hc hs
  have hl : a < s.heap.size := (Array.getElem?_eq_some_iff.mp hc).1
  rw [hS.2.1 a hl (fun q => by
    rcases hA a q with ⟨k, e, h⟩ | h
    · rw [th_static hP h hc] at hs; cases hs
    · omega)]
  exact hc
theorem th_P {D : va_G} {cl : List vw_C} {ws : va_W} {H H1 : Heap} (hP : va_P D cl ws H) (h : ∀ a : Nat, a < H.size → H1[a]? = H[a]?) : va_P D cl ws H1 := fun k q hk => (hP k q hk).kept (h q.1 (hP k q hk).lt)
theorem th_F {A : Nat → Prop} {s t : State} {H : Heap} {locs : List Loc} (hS : va_S A s.heap H locs) (h : ∀ a : Nat, a < H.size → t.heap[a]? = H[a]?) (hz : H.size ≤ t.heap.size) : va_F A s t := ⟨Nat.le_trans hS.1 hz, fun q h1 h2 => by rw [h q (Nat.lt_of_lt_of_le h1 hS.1)]; exact hS.2.1 q h1 h2⟩
theorem TW.call {U : State} (h : TW U) (g : JFrame) (mk : MethodId) (a : Array Value) : TW (U.calling g mk a) := TW.warm (s := U) (U := U.calling g mk a) h (State.WarmedH.refl U) (fun _ _ h _ => h)
/-- how a method that throws leaves its world -/
def TQ (D : va_G) (cl : List vw_C) (tys : List (ClassId × FieldType)) (W0 W2 : va_W) (sz : Nat) : Array Value → State → Addr → State → Prop := fun _ st x t => va_P D cl W2 t.heap ∧ va_K D cl tys t ∧ va_D (va_A W0 sz) W2 ∧ va_F (va_A W0 sz) st t ∧ ∃ ce : Cell, t.heap[x]? = some ce ∧ ce.vm.isStatics = false ∧ st.vm.findClass R_E = some ce.cls ∧ st.vm.assignable ce.cls ce.cls = true
theorem pr_VT {D : va_G} {cl : List vw_C} {A : Nat → Prop} {wc : va_W} {tys tys' : List (ClassId × FieldType)} {s : State} {H : Heap} {As : List Value} {C : String} {b ci : Nat} {fs : List Value} {q : vw_C} (hPc : va_P D cl wc H) (hDc : va_D A wc) (hK : va_K D cl tys s) (hN : NW s) (hT : ∀ U : State, U.heap = H → s.WarmedH U.vm → TW U) (isT : List Nat) (ht : isT.filterMap (fun i => tys[i]?) = tys') (hr : wc[0]? = some (b, .inr (ci, fs))) (hc : cl[ci]? = some q) (hq : q.1 = C) :
    PreV s H C b (va_Pc (.ref b :: As) (fun U => U.heap.size = H.size ∧ va_P D cl wc U.heap ∧ va_K D cl tys' U ∧ va_D (fun _ => True) wc ∧ NW U ∧ TW U)) As := by
  have hKc : va_K D cl tys' s := hK.sub isT ht
  subst hq
  exact ⟨fun a U g mk q => by obtain ⟨q0, q1, qP, qK, qD, qN, qT⟩ := q; exact ⟨q0, q1, qP, va_K.moved (u := U) (U := U.calling g mk a) (Vm.Alike.refl U.vm) qK, qD, NW.same (s := U) (U := U.calling g mk a) rfl qN, qT.call g mk a⟩, va_recv hKc hPc hc hr, fun U hU hW => ⟨rfl, by rw [hU], by rw [hU]; exact hPc, va_K.moved hW.alike hKc, hDc.weaken (fun _ _ _ _ => trivial), hN.warm hW, hT U hU hW⟩⟩
theorem pr_ST {D : va_G} {cl : List vw_C} {A : Nat → Prop} {wc : va_W} {tys tys' : List (ClassId × FieldType)} {s : State} {H : Heap} {As : List Value} (hPc : va_P D cl wc H) (hDc : va_D A wc) (hK : va_K D cl tys s) (hN : NW s) (hT : ∀ U : State, U.heap = H → s.WarmedH U.vm → TW U) (isT : List Nat) (ht : isT.filterMap (fun i => tys[i]?) = tys') :
    PreS s H (va_Pc As (fun U => U.heap.size = H.size ∧ va_P D cl wc U.heap ∧ va_K D cl tys' U ∧ va_D (fun _ => True) wc ∧ NW U ∧ TW U)) As := by
  have hKc : va_K D cl tys' s := hK.sub isT ht
  exact ⟨fun a U g mk q => by obtain ⟨q0, q1, qP, qK, qD, qN, qT⟩ := q; exact ⟨q0, q1, qP, va_K.moved (u := U) (U := U.calling g mk a) (Vm.Alike.refl U.vm) qK, qD, NW.same (s := U) (U := U.calling g mk a) rfl qN, qT.call g mk a⟩, fun U hU hW => ⟨rfl, by rw [hU], by rw [hU]; exact hPc, va_K.moved hW.alike hKc, hDc.weaken (fun _ _ _ _ => trivial), hN.warm hW, hT U hU hW⟩⟩
theorem th_tab {α β : Type} {f : α → β} {l : List α} {q : β} (h : l.map f = [q]) : ∃ x, l = [x] ∧ f x = q := by
  rcases l with _ | ⟨x, _ | ⟨y, l⟩⟩
  · cases h
  · exact ⟨x, rfl, (List.cons.inj h).1⟩
  · cases h
section THJ
variable {p : Program} {l : Launch} {e : Env} {R : Room} {s : State} {m : MethodId} {args : Array Value} {below : List Frame} {meth : Method} {c : Code} {H : Heap} {locs : List Loc} {cells slots : Nat} {Q : State → Prop}
variable {y : MethodName} {bytes cc : ByteArray} {maxL nL mc ms n index pc : Nat} {ret : Option FieldType} {ws : List Cond} {rm : Room} {Pc : Array Value → State → Prop} {Ts : List Cond} {own C : String} {b : Addr} {As rest st0 : List Value} {ls : Array Slot}
variable {D : va_G} {cl : List vw_C} {tys : List (ClassId × FieldType)} {X cx wr rx pl pl1 : va_W} {A0 : Nat → Prop} {H0 : Heap}
/-- a call that throws, caught here; behind it the callee's world stands beside the rest -/
theorem tc_V (S : CallFix p m c cc nL s args Ts own) (hM : MetT l y ws rm Pc (TQ D cl tys (cx ++ pl) (rx ++ pl1) H.size) mc ms (va_A (cx ++ pl) H.size)) (cw : CallW R s args own C index y bytes maxL ret ws rm mc ms n) (hp : PreV s H C b Pc As)
    (hn : As.length = n) (hsize : ls.size = nL) (hstack : st0 = As.reverse ++ .ref b :: rest) (hWd : (rest.map fun v => v.category).sum ≤ 8) (hdg : decode cc pc = .ok (.invokevirtual index, 3)) (hf : cells + mc ≤ R.cells ∧ slots + ms ≤ R.slots)
    {x : ExceptionTableEntry} (ht : c.exceptionTable.toList = [x]) (hx : covers x pc = true) (h0 : x.catchType ≠ 0) (hlink : (Cond.classLink own x.catchType R_E).before args s = true)
    (hP : va_P D cl (X ++ pl) H) (hD : va_D A0 (X ++ pl)) (hS : va_S A0 H0 H locs) (hA : ∀ q, H0.size ≤ q → A0 q) (isC isR : List Nat) (hC : isC.map (fun i => X[i]?) = cx.map some) (hR : isR.map (fun i => X[i]?) = wr.map some) (hnd : va_nd isR = true) (hdis : ∀ i ∈ isR, i ∉ isC)
    (kk : ∀ (a : Addr) (H1 : Heap) (locs1 : List Loc), va_P D cl ((wr ++ rx) ++ pl1) H1 → va_D A0 ((wr ++ rx) ++ pl1) → va_S A0 H0 H1 locs1 → W p l e R s m args below meth c H1 locs1 (cells + mc) (slots + ms) Q (F0 m x.handlerPc ls [.ref a])) :
    W p l e R s m args below meth c H locs cells slots Q (F0 m pc ls st0) := by
  have hFc := va_freeP (cx := cx) hD hS hA isC hC
  obtain ⟨hx1, hb1, hml1, ho1, hts1⟩ := id S
  intro T hT Xs
  have hpl : e.platform.magicAccessors = ({} : Platform).magicAccessors := by rw [Xs.admits.platform]
  obtain ⟨cT, hcT, -⟩ := Cond.classLink_spec ho1 hlink e.platform hpl
  refine th_callV S hM cw hp hn hsize hstack hWd hdg hf ht hx h0 hlink hcT (fun st t a hW hq => ?_) (fun a st t L h0 hvm hq hL => ?_) T hT Xs
  · obtain ⟨-, -, -, -, ce, g1, g2, g3, g4⟩ := hq
    rw [hW.alike.findClass] at g3
    rw [hW.alike.assignable] at g4
    cases hcT.symm.trans g3
    exact ⟨ce, g1, g2, g4⟩
  · obtain ⟨hP1, -, hD1, ⟨hz, hk⟩, -⟩ := hq
    rw [h0] at hz hk
    obtain ⟨hP2, hD2⟩ := va_joinP hP hD isC isR hC hR hnd hdis hk hFc hP1 hD1
    refine kk a t.heap (locs ++ L) hP2 hD2 ⟨Nat.le_trans hS.1 hz, fun q h1 h2 => ?_, fun q hq => ?_⟩
    · rw [hk q (Nat.lt_of_lt_of_le h1 hS.1) (fun z => h2 (hFc q z))]
      exact hS.2.1 q h1 h2
    · rcases List.mem_append.mp hq with h | h
      · exact hS.2.2 q h
      · exact hFc _ (hL q h)
end THJ
