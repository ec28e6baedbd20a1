/-! THE THROW: words of the exception, its statics, the state from which it is thrown -/
def R_E : String := "java/lang/IllegalArgumentException"
def R_H : String := "java/lang/Throwable"
def th_up : List String := ["java/lang/RuntimeException", "java/lang/Exception"]
def th_tx : String := "the line has a fault"
def th_n1 : String := "UNASSIGNED_STACK"
def th_d1 : String := "[Ljava/lang/StackTraceElement;"
def th_n2 : String := "SUPPRESSED_SENTINEL"
def th_d2 : String := "Ljava/util/List;"
def th_nr : Cond → Bool
  | .isRef _ => false
  | .laysStatic .. => false
  | _ => true
def WT : List Cond := (Bundle.ownAtoms R_R 89 R_E th_up).filter th_nr ++ [.classLink R_R 85 R_E, .initialized R_E]
set_option maxRecDepth 100000 in
theorem WT_ok : ∀ y ∈ WT, (y.onTables && y.keepsFace) = true := by decide +kernel
set_option maxRecDepth 100000 in
theorem WT_own : ∀ y ∈ Bundle.ownAtoms R_R 89 R_E th_up, th_nr y = true ∨ y = .isRef (.static R_H th_n1 th_d1) ∨ y = .isRef (.static R_H th_n2 th_d2) ∨ y = .laysStatic R_H th_n1 th_d1 ∨ y = .laysStatic R_H th_n2 th_d2 := by decide +kernel
set_option maxRecDepth 100000 in
theorem WT_tbl : ∀ y ∈ WT, y ∈ lw_tbl := by decide +kernel
/-- a static reference of Throwable's -/
def ZS (n d : String) (U : State) (H : Heap) : Prop := ∃ (cf : ClassId) (kf : Class) (fi : Nat) (f : Field) (a : Nat) (cell : Cell) (v : Value), U.vm.findClass R_H = some cf ∧ U.fieldFound? R_H n d = some (cf, kf, fi, f) ∧ f.isStatic = true ∧ kf.statics = some a ∧ H[a]? = some cell ∧ cell.vm.isStatics = true ∧ cell.cls = cf ∧ f.slot < cell.slots.size ∧ kf.staticTypes[f.slot]? = some f.type ∧ cell.slots[f.slot]? = some v ∧ v.isRef = true
theorem ZS.of {n d : String} {A : Array Value} {U : State} (h1 : (Cond.laysStatic R_H n d).before A U = true) (h2 : (Cond.isRef (.static R_H n d)).before A U = true) : ZS n d U U.heap := by
  obtain ⟨c, k, i, f, a, cell, hc, hi, hst, ha, hcell, hs, hcls, hlt, hty⟩ := Cond.laysStatic_spec h1
  obtain ⟨v, hv, hr⟩ := Cond.isRef_spec h2
  obtain ⟨-, a', cell', ha', hcell', -, hslot⟩ := Term.static_spec hi hv
  cases ha.symm.trans ha'
  cases hcell.symm.trans hcell'
  exact ⟨c, k, i, f, a, cell, v, hc, hi, hst, ha, hcell, hs, hcls, hlt, hty, hslot, hr⟩
theorem ZS.moved {n d : String} {u U : State} {H : Heap} (hvm : u.vm.Alike U.vm) (h : ZS n d u H) : ZS n d U H := by
  obtain ⟨cf, kf, fi, f, a, cell, v, h1, h2, h3, h4, h5, h6, h7, h8, h9, g1, g2⟩ := h
  obtain ⟨k', hi', he⟩ := State.fieldFound?_setVm hvm h2
  exact ⟨cf, k', fi, f, a, cell, v, by rw [hvm.findClass]; exact h1, hi', h3, by rw [he]; exact h4, h5, h6, h7, h8, by rw [he]; exact h9, g1, g2⟩
theorem ZS.kept {n d : String} {U : State} {H H1 : Heap} (h : ZS n d U H) (hq : ∀ (a : Nat) (cell : Cell), H[a]? = some cell → cell.vm.isStatics = true → H1[a]? = some cell) : ZS n d U H1 := by
  obtain ⟨cf, kf, fi, f, a, cell, v, h1, h2, h3, h4, h5, h6, h7, h8, h9, g1, g2⟩ := h
  exact ⟨cf, kf, fi, f, a, cell, v, h1, h2, h3, h4, hq a cell h5 h6, h6, h7, h8, h9, g1, g2⟩
theorem ZS.lays {n d : String} {U : State} (h : ZS n d U U.heap) (A : Array Value) : (Cond.laysStatic R_H n d).before A U = true := by
  obtain ⟨cf, kf, fi, f, a, cell, v, h1, h2, h3, h4, h5, h6, h7, h8, h9, g1, g2⟩ := h
  simp [Cond.before, Cond.holds, Cond.value, h1, h2, h3, h4, h5, h6, h7, h8, h9]
theorem ZS.ref {n d : String} {U : State} (h : ZS n d U U.heap) (A : Array Value) : (Cond.isRef (.static R_H n d)).before A U = true := by
  obtain ⟨cf, kf, fi, f, a, cell, v, h1, h2, h3, h4, h5, h6, h7, h8, h9, g1, g2⟩ := h
  have hv : (Term.static R_H n d).eval A U none [] U = some v := Term.static_eval h2 h3 h4 h5 h6 g1
  simp only [Cond.before, Cond.holds, Cond.value, hv]
  cases v <;> first | rfl | (simp [Value.isRef] at g2)
/-- what a throw asks of a state -/
def TW (U : State) : Prop := (∀ y ∈ WT, y.before #[] U = true) ∧ (Cond.stringRef R_R 87 th_tx).before #[] U = true ∧ ZS th_n1 th_d1 U U.heap ∧ ZS th_n2 th_d2 U U.heap
theorem TW.at {U : State} (h : TW U) (A : Array Value) : ∀ y ∈ WT, y.before A U = true := fun y hy => va_any (by have := WT_ok y hy; rw [Bool.and_eq_true] at this; exact this.1) (h.1 y hy)
theorem TW.str {U : State} (h : TW U) (A : Array Value) : (Cond.stringRef R_R 87 th_tx).before A U = true := h.2.1
theorem TW.own {U : State} (h : TW U) (A : Array Value) : ∀ y ∈ Bundle.ownAtoms R_R 89 R_E th_up, y.before A U = true := by
  intro y hy
  rcases WT_own y hy with q | q | q | q | q
  · exact h.at A y (List.mem_append_left _ (List.mem_filter.mpr ⟨hy, q⟩))
  · rw [q]; exact h.2.2.1.ref A
  · rw [q]; exact h.2.2.2.ref A
  · rw [q]; exact h.2.2.1.lays A
  · rw [q]; exact h.2.2.2.lays A
theorem TW.warm {s U : State} (h : TW s) (hW : s.WarmedH U.vm) (hq : ∀ (a : Nat) (cell : Cell), s.heap[a]? = some cell → cell.vm.isStatics = true → U.heap[a]? = some cell) : TW U := by
  refine ⟨fun y hy => ?_, ?_, (h.2.2.1.kept hq).moved hW.alike, (h.2.2.2.kept hq).moved hW.alike⟩
  · have hk := WT_ok y hy
    rw [Bool.and_eq_true] at hk
    have h1 := Cond.before_shiftedFace (State.Shifted.of_warmed hW) y hk.2 (h.1 y hy)
    rw [Cond.onTables_vm (A' := #[]) (U' := U) U.vm y hk.1] at h1
    exact h1
  · have h1 := Cond.stringRef_warmed hW h.2.1
    exact h1
section THB
variable {p : Program} {l : Launch} {e : Env} {R : Room} {s : State} {m : MethodId} {args : Array Value} {below : List Frame} {meth : Method} {c : Code} {T : State} {locs : List Loc} {cells slots : Nat}
theorem th_hears {s u : State} (hv : s.vm.Alike u.vm) (m : MethodId) (below : List Frame) (h : s.hears m below = true) : u.hears m below = true := by
  cases below with
  | nil => simp only [State.hears, hv.method?] at h ⊢; exact h
  | cons f r => cases f <;> simp only [State.hears, State.code?_eq, hv.method?] at h ⊢ <;> exact h
/-- the walk, seen from here on as if the method began here -/
theorem th_rebase (X : Stand p l e R s m args below meth c T locs cells slots) (R' : Room) (hf : R'.frames ≤ R.frames) (hl : R'.locals ≤ R.locals) (hc : cells + R'.cells ≤ R.cells) (hs : slots + R'.slots ≤ R.slots) :
    Stand p l e R' (T.setFrames (.invoking m args :: below)) m args below meth c T [] 0 0 := by
  have hcur : T.cur < T.threads.size := State.cur_lt_of_top X.here.top
  have hF : (T.setFrames (.invoking m args :: below)).frames = .invoking m args :: below := State.frames_setFrames _ hcur
  have hm : (T.setFrames (.invoking m args :: below)).vm.method? m = some meth := X.method'
  obtain ⟨t, ht, -⟩ := State.frames_cons hF
  refine ⟨X.admits, X.cas, X.clock, hF, ?_, ?_, hm, X.code, X.here, X.tail, State.WarmedH.refl _, by rw [State.stackLimits_setFrames], by rw [State.stackBytes_setFrames], ?_⟩
  · obtain ⟨r1, r2, r3, r4⟩ := State.hasRoom_stack X.room
    have r5 := State.hasRoom_real X.room
    have h := X.room
    simp only [State.hasRoom, Bool.and_eq_true, decide_eq_true_eq] at h
    rw [State.localsInUse_invoking X.frames X.method X.code] at r3 r4 r5
    rw [X.frames, List.length_cons] at r1 r2
    have hU := State.localsInUse_invoking hF (meth := meth) (c := c) hm X.code
    have h1 := X.heapSize
    have h2 := X.used
    simp only [State.hasRoom, Bool.and_eq_true, decide_eq_true_eq, hF, hU, List.length_cons, State.stackLimits_setFrames, State.stackBytes_setFrames, X.limits, X.bytes]
    refine ⟨⟨⟨⟨by omega, by omega, by omega, by omega, by omega, h.1.1.1.2.2.2.2.2⟩, ?_⟩, ?_⟩, X.book⟩
    · have := h.1.1.2
      show T.heap.size + R'.cells ≤ _
      omega
    · have := h.1.2
      show T.slotsUsed + R'.slots ≤ _
      omega
  · exact th_hears (s := s) X.warmed.alike m below X.hears
  · have h := (State.sameButNew.refl (T.setFrames (.invoking m args :: below)) ht).setFrames T.frames (State.cur_lt_of_frames hF)
    rw [State.setFrames_setFrames] at h
    obtain ⟨g₀, hg⟩ := Option.isSome_iff_exists.mp X.here.top
    obtain ⟨r, hr⟩ := State.topJava?_eq_some.mp hg
    obtain ⟨t', ht', -⟩ := State.frames_cons hr
    rw [State.setFrames_self ht'] at h
    exact h
end THB
