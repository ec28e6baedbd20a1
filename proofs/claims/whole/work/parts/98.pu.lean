/-! THE THROW: contracts of methods that throw, and the catch -/
theorem d_R_read_53 : decode b_R_read 53 = .ok (.ldc 87, 2) := by decide +kernel
def MQT (below : List Frame) (Qc : Array Value → State → Addr → State → Prop) (a : Array Value) (s : State) (mc ms : Nat) (free : Addr → Prop) : State → Prop := fun t =>
  ∃ x, t.status = .running ∧ Ended t below (.threw x) ∧ Qc a s x t ∧ ∃ L, s.WarmedH t.vm ∧ s.sameButNew ({ t with vm := s.vm } : State) L mc ms ∧ ∀ q ∈ L, free q.base
/-- the contract of a method that throws -/
def MetT (l : Launch) (y : MethodName) (ws : List Cond) (rm : Room) (Pc : Array Value → State → Prop) (Qc : Array Value → State → Addr → State → Prop) (mc ms : Nat) (free : Addr → Prop) : Prop :=
  MetFree l y (headSpec ws rm) Pc (fun _ _ _ _ _ => True) (fun a st o t => ∃ x, o = .threw x ∧ Qc a st x t ∧ ∃ L, st.WarmedH t.vm ∧ st.sameButNew ({ t with vm := st.vm } : State) L mc ms ∧ ∀ q ∈ L, free q.base)
theorem MetT.ofW {l : Launch} {y : MethodName} {ws ws' : List Cond} {rm : Room} {Pc : Array Value → State → Prop} {Qc : Array Value → State → Addr → State → Prop} {mc ms : Nat} {free : Addr → Prop} {cc : ByteArray} {maxL : Nat} {ret : Option FieldType}
    (hy : plainName y.cls = true) (hw : ws = Cond.code y cc maxL ret :: ws')
    (body : ∀ p e s m args below meth c s₁, BodyLoose p l y (headSpec ws rm) cc maxL ret e s m args below meth c s₁ → c.maxLocals = maxL → Pc args s →
      W p l e (headSpec ws rm).room s m args below meth c s.heap [] 0 0 (MQT below Qc args s mc ms free) (entryFrame m args maxL)) : MetT l y ws rm Pc Qc mc ms free := by
  refine MetFree.of_bodyS (code := cc) (maxLocals := maxL) (ret := ret) hy ?_ ?_
  · intro args s m h hn
    obtain ⟨meth, c, h1, h2, h3, h4, h5, h6, -, -⟩ := Cond.code_spec hn (atoms_spec (ws := ws) h _ (by rw [hw]; exact List.mem_cons_self))
    exact ⟨meth, c, h1, h2, h3, h4, h5, h6⟩
  · intro p e s m args below meth c s₁ B hml hP _
    have hh0 : s₁.heap = s.heap := by rw [B.state]; rfl
    obtain ⟨t, a1, x, b1, b2, b3⟩ := body p e s m args below meth c s₁ B hml hP s₁ hh0 (Stand.of_body B)
    exact ⟨t, .threw x, a1, b1, b2, x, rfl, b3⟩
section THW
variable {p : Program} {l : Launch} {e : Env} {R : Room} {s : State} {m : MethodId} {args : Array Value} {below : List Frame} {meth : Method} {c : Code} {H : Heap} {locs : List Loc} {cells slots : Nat}
/-- from 'new IllegalArgumentException' to the end of the method -/
theorem W.thr {Qc : Array Value → State → Addr → State → Prop} {free : Addr → Prop} (hexec : p.tables.exec = Jvm.exec) (hb : c.code = b_R_read) (hml : c.maxLocals = 2) (hfl : l.flags = flags0) (hown : s.vm.findClass R_R = some m.cls) (hno : c.exceptionTable.isEmpty = true) {ls : Array Slot} (hls : ls.size = 2)
    (hTW : ∀ U : State, U.heap = H → s.WarmedH U.vm → TW U) (hR1 : 6 ≤ R.frames) (hR2 : 100 ≤ R.locals) (hR3 : cells + 1 ≤ R.cells) (hR4 : slots + 6 ≤ R.slots)
    (hq : ∀ (t : State) (x : Addr), x = H.size → (∀ a : Nat, a < H.size → t.heap[a]? = H[a]?) → H.size ≤ t.heap.size → s.WarmedH t.vm → (∃ ce : Cell, t.heap[x]? = some ce ∧ ce.vm.isStatics = false ∧ s.vm.findClass R_E = some ce.cls ∧ s.vm.assignable ce.cls ce.cls = true) → Qc args s x t) (hf : ∀ q ∈ locs, free q.base) (hlocks : meth.locks = false) :
    W p l e R s m args below meth c H locs cells slots (MQT below Qc args s (cells + 1) (slots + 6) free) (F0 m 49 ls []) := by
  intro T hT X
  have htr : e.platform.stackTraces = false := Launch.traces_off hfl X.admits
  have X0 := th_rebase X { frames := R.frames, cells := 1, slots := 6, locals := R.locals } (Nat.le_refl _) (Nat.le_refl _) hR3 hR4
  have hcur : T.cur < T.threads.size := State.cur_lt_of_top X.here.top
  generalize hs0 : T.setFrames (.invoking m args :: below) = s0 at X0
  have hv0 : s0.vm = T.vm := by rw [← hs0]; rfl
  have hh0 : s0.heap = T.heap := by rw [← hs0]; rfl
  have hW0 : s.WarmedH s0.vm := by rw [hv0]; exact X.warmed
  have hT0 : TW s0 := hTW s0 (by rw [hh0]; exact hT) hW0
  have hown0 : s0.vm.findClass R_R = some m.cls := by rw [hW0.alike.findClass]; exact hown
  have hat := hT0.at args
  obtain ⟨vm₁, cX, kX, hfX, hkX, -, -, X₁, st1⟩ := X0.newCold hexec (own := R_R) (C := R_E) (index := 85) (n := 6) hown0 (hat _ (List.mem_append_right _ (by simp))) (hT0.own args (.instantiable R_E 6) (by simp [Bundle.ownAtoms])) (hat _ (List.mem_append_right _ (by simp)))
    (g := F0 m 49 ls []) rfl (by rw [hb]; exact d_R_read_49) (Nat.le_refl _) (Nat.le_refl _)
  generalize hT1 : (T.setVm vm₁).pushCell { cls := cX, slots := kX.instanceTypes.map defaultValue, vm := .none } = T1 at X₁ st1
  have hcellA : T1.heap[T.heap.size]? = some (freshCell cX kX) := by rw [← hT1]; exact State.heap_pushCell_size _ _
  have hconst := hT0.str args
  obtain ⟨-, -, -, sa, -, -, -, -, -, hev⟩ := Cond.stringRef_spec hown0 hconst
  obtain ⟨U, hsteps, hrun, hend, hW, hsame, ce, hce, K⟩ := X₁.ctorThrowS hexec htr (own := R_R) (cls := R_E) (names := th_up) (ic := 89) hown0 (by decide +kernel) (by decide +kernel)
    (hT0.own args) (fun y hy => by cases hy) hfX hkX hcellA (by rw [hh0]; exact Nat.le_refl _) (msg := .ref sa) rfl
    (g := F0 m 55 ls [.ref sa, .ref T.heap.size, .ref T.heap.size]) rfl (hls.trans hml.symm) rfl rfl (rest := []) rfl
    (by rw [hb]; exact d_R_read_55) (by rw [hb]; exact d_R_read_58) (covers_of_empty hno _) (show 2 + 3 < R.frames by omega) (show 2 * 0 + 1 + (13 * (2 + 1) + 42) ≤ R.locals by omega) hlocks
  have hold : ∀ a : Nat, a < H.size → U.heap[a]? = H[a]? := by
    intro a ha
    rw [← hT] at ha ⊢
    have h1 : s0.heap[a]? = some T.heap[a] := by rw [hh0]; exact Array.getElem?_eq_getElem ha
    rw [Array.getElem?_eq_getElem ha]
    exact State.sameButNew.old_cell hsame h1
  have hWU : s.WarmedH U.vm := by
    have h1 : T.WarmedH U.vm := by
      have h2 := hW
      rw [← hs0] at h2
      exact h2
    exact State.WarmedH.trans X.warmed h1
  have hsm : s.sameButNew ({ U with vm := s.vm } : State) locs (cells + 1) (slots + 6) := by
    subst hs0
    obtain ⟨e1, e2, e3, e4, e5, e6⟩ := hsame
    have h1 : T.sameButNew (({ U with vm := T.vm } : State).setVm T.vm) [] 1 6 := by
      refine ⟨?_, e2, e3, e4, e5, e6⟩
      rw [State.setFrames_setFrames] at e1
      exact e1
    have h2 := X.same.trans (h1.setVm s.vm)
    rw [List.append_nil] at h2
    exact h2
  refine ⟨U, ?_, T.heap.size, hrun, hend, hq U T.heap.size (by rw [hT]) hold ?_ hWU ⟨ce, hce, by rw [K.vm]; rfl, ?_, ?_⟩, locs, hWU, hsm, hf⟩
  · refine st1 _ ?_
    show Steps p.tables e below (T1.setTop (F0 m 52 ls [.ref T.heap.size])) _
    jvm_step X₁.here [X₁.here.top, hexec, hb, d_R_read_52, Value.category]
    exact X₁.ldcString hexec (own := R_R) (text := th_tx) (index := 87) (a := sa) hown0 hconst hev (g := F0 m 53 ls [.ref T.heap.size, .ref T.heap.size]) rfl (by rw [hb]; exact d_R_read_53) _ hsteps
  · have h1 : s0.heap.size ≤ U.heap.size := hsame.2.1
    rw [hh0, hT] at h1
    exact h1
  · rw [← hW0.alike.findClass]; exact K.cls
  · rw [← hW0.alike.assignable]; exact K.self
end THW
