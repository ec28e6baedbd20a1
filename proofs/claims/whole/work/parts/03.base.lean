/-! WORDS: one list for all methods: every good word of the tables -/
def WB : List Cond := lw_tbl.filter goodWord
theorem wbm {w : Cond} {i : Nat} (h : lw_tbl[i]? = some w) (hg : goodWord w = true) : w ∈ WB := List.mem_filter.mpr ⟨List.mem_of_getElem? h, hg⟩
theorem WB_good : ∀ w ∈ WB, (w.onTables && w.keeps) = true ∨ ∃ ty, w = .arrayClass ty := fun w h => good_of_word (List.mem_filter.mp h).2
theorem WB_in : ∀ w ∈ WB, w ∈ lw_tbl := fun w h => (List.mem_filter.mp h).1
theorem gw0 {ws : List Cond} (h : ∀ w ∈ ws, w ∈ WB) : GoodIn WB ws := fun w hw => ⟨h w hw, WB_good w (h w hw)⟩
theorem gwC {c : Cond} (h : c ∈ WB) : ∀ w ∈ c :: WB, w ∈ WB := fun w hw => by
  rcases List.mem_cons.mp hw with rfl | hw
  · exact h
  · exact hw
theorem gwI {c : Cond} (h : c ∈ WB) : GoodIn WB (c :: WB) := gw0 (gwC h)
theorem gwV {own C : String} {idx : Nat} {y : MethodName} {c : Cond} (h1 : Cond.methodLink own idx y ∈ WB) (h2 : Cond.instanceMethod y ∈ WB) (h3 : Cond.selects C y y ∈ WB) (h4 : Cond.initialized C ∈ WB) (h5 : c ∈ WB) : GoodIn WB (wsV own idx C y (c :: WB)) := gw0 fun w hw => by
  unfold wsV at hw
  rcases List.mem_append.mp hw with hw | hw
  · simp only [List.mem_cons, List.not_mem_nil, or_false] at hw
    rcases hw with rfl | rfl | rfl | rfl <;> assumption
  · exact gwC h5 w hw
theorem gwS {own : String} {idx : Nat} {y : MethodName} {c : Cond} (h1 : Cond.methodLink own idx y ∈ WB) (h2 : Cond.static y ∈ WB) (h3 : Cond.initialized y.cls ∈ WB) (h5 : c ∈ WB) : GoodIn WB (va_wsS own idx y (c :: WB)) := gw0 fun w hw => by
  unfold va_wsS at hw
  rcases List.mem_append.mp hw with hw | hw
  · simp only [List.mem_cons, List.not_mem_nil, or_false] at hw
    rcases hw with rfl | rfl | rfl <;> assumption
  · exact gwC h5 w hw
/-! THE MODELS' WORDS: a model is an Option; none: the machine would throw, or the turns of a loop didn't suffice -/
def FU : Nat := 4096
def gi {α : Type} (i : Int32) (n : Nat) (k : Option α) : Option α := if i < 0 ∨ n ≤ i.toNatClampNeg then none else k
def gn {α : Type} (b : Prop) [Decidable b] (k : Option α) : Option α := if b then none else k
def oc {α β : Type} (x : Option β) (a : Option α) (b : β → Option α) : Option α := match x with
  | none => a
  | some z => b z
theorem oc_none {α β : Type} {a : Option α} {b : β → Option α} : oc none a b = a := rfl
theorem oc_some {α β : Type} {a : Option α} {b : β → Option α} {z : β} : oc (some z) a b = b z := rfl
theorem gi_some {α : Type} {i : Int32} {n : Nat} {k : Option α} {o : α} (h : gi i n k = some o) : vp_in i n ∧ k = some o := by
  unfold gi at h
  by_cases c : i < 0 ∨ n ≤ i.toNatClampNeg
  · rw [if_pos c] at h; cases h
  · rw [if_neg c] at h; exact ⟨c, h⟩
theorem gn_some {α : Type} {b : Prop} [Decidable b] {k : Option α} {o : α} (h : gn b k = some o) : ¬ b ∧ k = some o := by
  unfold gn at h
  by_cases c : b
  · rw [if_pos c] at h; cases h
  · rw [if_neg c] at h; exact ⟨c, h⟩
def gz {α : Type} (x : Int32) (k : Option α) : Option α := if x &&& 1 = x then k else none
theorem gz_some {α : Type} {x : Int32} {k : Option α} {o : α} (h : gz x k = some o) : narrow .boolean (.int x) = .int x ∧ k = some o := by
  unfold gz at h
  by_cases c : x &&& 1 = x
  · rw [if_pos c] at h; exact ⟨congrArg Value.int c, h⟩
  · rw [if_neg c] at h; cases h
theorem bd_some {α β : Type} {x : Option α} {k : α → Option β} {z : β} (h : x.bind k = some z) : ∃ o, x = some o ∧ k o = some z := by
  cases x with
  | none => cases h
  | some o => exact ⟨o, rfl, h⟩
/-! words that a contract carries in its start: private members across the nest, rows of names -/
def isNest : Cond → Bool
  | .fieldLinkNest .. => true
  | .methodLinkNest .. => true
  | _ => false
def NL : List Cond := lw_tbl.filter isNest
theorem nlm {w : Cond} {i : Nat} (h : lw_tbl[i]? = some w) (hg : isNest w = true) : w ∈ NL := List.mem_filter.mpr ⟨List.mem_of_getElem? h, hg⟩
def NW (U : State) : Prop := (∀ w ∈ NL, va_Nw w U) ∧ va_AO "ExpressionReader$Name" U
theorem NW.use {A : Array Value} {U : State} {w : Cond} (h : NW U) (hw : w ∈ NL) (ht : w.onTables = true) : w.before A U = true := va_Nw.use ht (h.1 w hw)
theorem NW.warm {s U : State} (hW : s.WarmedH U.vm) (h : NW s) : NW U := ⟨fun w hw => by
  have h1 := (List.mem_filter.mp hw).2
  have h2 := h.1 w hw
  cases w <;> first | exact va_Nw.warmF hW h2 | exact va_Nw.warmM hW h2 | (simp [isNest] at h1), h.2.moved hW.alike⟩
theorem NW.same {s U : State} (hv : s.vm = U.vm) (h : NW s) : NW U := ⟨fun w hw => by
  have h1 := (List.mem_filter.mp hw).2
  have h2 := h.1 w hw
  cases w <;> first | exact va_Nw.same rfl hv h2 | (simp [isNest] at h1), h.2.moved (by rw [hv]; exact Vm.Alike.refl _)⟩
/-! CALLS: a callee's world is cut out of the caller's by places, and laid behind the rest when it comes back -/
theorem fm_of {α : Type} {ws wc : List α} (is : List Nat) (h : is.map (fun i => ws[i]?) = wc.map some) : is.filterMap (fun i => ws[i]?) = wc := by
  have h1 : is.filterMap (fun i => ws[i]?) = (is.map (fun i => ws[i]?)).filterMap id := by rw [List.filterMap_map]; rfl
  rw [h1, h, List.filterMap_map]
  have h2 : ∀ l : List α, l.filterMap (id ∘ some) = l := by
    intro l
    induction l with
    | nil => rfl
    | cons a l ih => simp
  exact h2 wc
theorem pr_S {D : va_G} {cl : List vw_C} {A : Nat → Prop} {wc : va_W} {tys tys' : List (ClassId × FieldType)} {s : State} {H : Heap} {As : List Value} (hPc : va_P D cl wc H) (hDc : va_D A wc) (hK : va_K D cl tys s) (hN : NW s) (isT : List Nat) (hT : isT.filterMap (fun i => tys[i]?) = tys') :
    PreS s H (va_Pc As (fun U => U.heap.size = H.size ∧ va_P D cl wc U.heap ∧ va_K D cl tys' U ∧ va_D (fun _ => True) wc ∧ NW U)) As := by
  have hKc : va_K D cl tys' s := hK.sub isT hT
  exact ⟨fun a U g mk q => by obtain ⟨q0, q1, qP, qK, qD, qN⟩ := q; exact ⟨q0, q1, qP, va_K.moved (u := U) (U := U.calling g mk a) (Vm.Alike.refl U.vm) qK, qD, NW.same (s := U) (U := U.calling g mk a) rfl qN⟩, fun U hU hW => ⟨rfl, by rw [hU], by rw [hU]; exact hPc, va_K.moved hW.alike hKc, hDc.weaken (fun _ _ _ _ => trivial), hN.warm hW⟩⟩
theorem pr_V {D : va_G} {cl : List vw_C} {A : Nat → Prop} {wc : va_W} {tys tys' : List (ClassId × FieldType)} {s : State} {H : Heap} {As : List Value} {C : String} {b ci : Nat} {fs : List Value} {q : vw_C} (hPc : va_P D cl wc H) (hDc : va_D A wc) (hK : va_K D cl tys s) (hN : NW s) (isT : List Nat) (hT : isT.filterMap (fun i => tys[i]?) = tys') (hr : wc[0]? = some (b, .inr (ci, fs))) (hc : cl[ci]? = some q) (hq : q.1 = C) :
    PreV s H C b (va_Pc (.ref b :: As) (fun U => U.heap.size = H.size ∧ va_P D cl wc U.heap ∧ va_K D cl tys' U ∧ va_D (fun _ => True) wc ∧ NW U)) As := by
  have hKc : va_K D cl tys' s := hK.sub isT hT
  subst hq
  exact ⟨fun a U g mk q => by obtain ⟨q0, q1, qP, qK, qD, qN⟩ := q; exact ⟨q0, q1, qP, va_K.moved (u := U) (U := U.calling g mk a) (Vm.Alike.refl U.vm) qK, qD, NW.same (s := U) (U := U.calling g mk a) rfl qN⟩, va_recv hKc hPc hc hr, fun U hU hW => ⟨rfl, by rw [hU], by rw [hU]; exact hPc, va_K.moved hW.alike hKc, hDc.weaken (fun _ _ _ _ => trivial), hN.warm hW⟩⟩
/-- every cell of the callee's world is one of the caller's -/
def inW (wc ws : va_W) : Prop := ∀ (j : Nat) (q : Nat × va_E), wc[j]? = some q → ∃ i : Nat, ws[i]? = some q
theorem in_of {wc ws : va_W} (isC : List Nat) (hC : isC.map (fun i => ws[i]?) = wc.map some) : inW wc ws := fun j q h => by
  obtain ⟨i, -, h2⟩ := va_in_of isC hC h
  exact ⟨i, h2⟩
theorem in_pool {X cx pl : va_W} (isC : List Nat) (hC : isC.map (fun i => X[i]?) = cx.map some) : inW (cx ++ pl) (X ++ pl) := fun j q h => ⟨_, va_part isC hC j q h⟩
theorem in_free {A0 : Nat → Prop} {ws wc : va_W} {H0 H : Heap} {locs : List Loc} (hD : va_D A0 ws) (hS : va_S A0 H0 H locs) (hA : ∀ q, H0.size ≤ q → A0 q) (h : inW wc ws) : ∀ q, va_A wc H.size q → A0 q := by
  intro q hq
  rcases hq with ⟨k, e, hk⟩ | hq
  · obtain ⟨i, hi⟩ := h k _ hk
    exact hD.2 i _ hi
  · exact hA q (Nat.le_trans hS.1 hq)
section CL
variable {p : Program} {l : Launch} {e : Env} {R : Room} {s : State} {m : MethodId} {args : Array Value} {below : List Frame} {meth : Method} {c : Code} {H : Heap} {locs : List Loc} {cells slots : Nat} {Q : State → Prop} {pc mc ms : Nat} {ls : Array Slot} {rest st0 : List Value} {a : Array Value} {A0 : Nat → Prop} {H0 : Heap} {D : va_G} {cl : List vw_C} {tys : List (ClassId × FieldType)} {ws wc wr w1 : va_W}
theorem cl_i {post : Int32 → Unit → Prop} (hr : va_Run p l e R s m args below meth c H locs cells slots mc ms (F0 m pc ls st0) rest (va_Qi post (fun _ t => va_P D cl w1 t.heap ∧ va_K D cl tys t ∧ va_D (va_A wc H.size) w1) (va_A wc H.size) a) (va_A wc H.size)) (hP : va_P D cl ws H) (hD : va_D A0 ws) (hS : va_S A0 H0 H locs) (hA : ∀ q, H0.size ≤ q → A0 q) (isC isR : List Nat) (hC : isC.map (fun i => ws[i]?) = wc.map some) (hR : isR.map (fun i => ws[i]?) = wr.map some) (hn : va_nd isR = true) (hdis : ∀ i ∈ isR, i ∉ isC)
    (kk : ∀ (r : Int32) (H1 : Heap) (locs1 : List Loc), post r () → va_P D cl (wr ++ w1) H1 → va_D A0 (wr ++ w1) → va_S A0 H0 H1 locs1 → W p l e R s m args below meth c H1 locs1 (cells + mc) (slots + ms) Q (F0 m (pc + 3) ls (.int r :: rest))) : W p l e R s m args below meth c H locs cells slots Q (F0 m pc ls st0) := by
  have hFc := va_free (wc := wc) hD hS hA isC hC
  refine va_calli hr hS (fun q _ h => hFc q h) hFc (fun r u t H1 locs1 ht hvm hw hB hz1 hk1 hS1 => ?_)
  obtain ⟨hP1, hK1, hD1⟩ := hB
  rw [ht] at hP1
  obtain ⟨hP2, hD2⟩ := va_join hP hD isC isR hC hR hn hdis hk1 hFc hP1 hD1
  exact kk r H1 locs1 hw hP2 hD2 hS1
theorem cl_l {post : Int64 → Unit → Prop} (hr : va_Run p l e R s m args below meth c H locs cells slots mc ms (F0 m pc ls st0) rest (va_Ql post (fun _ t => va_P D cl w1 t.heap ∧ va_K D cl tys t ∧ va_D (va_A wc H.size) w1) (va_A wc H.size) a) (va_A wc H.size)) (hP : va_P D cl ws H) (hD : va_D A0 ws) (hS : va_S A0 H0 H locs) (hA : ∀ q, H0.size ≤ q → A0 q) (isC isR : List Nat) (hC : isC.map (fun i => ws[i]?) = wc.map some) (hR : isR.map (fun i => ws[i]?) = wr.map some) (hn : va_nd isR = true) (hdis : ∀ i ∈ isR, i ∉ isC)
    (kk : ∀ (r : Int64) (H1 : Heap) (locs1 : List Loc), post r () → va_P D cl (wr ++ w1) H1 → va_D A0 (wr ++ w1) → va_S A0 H0 H1 locs1 → W p l e R s m args below meth c H1 locs1 (cells + mc) (slots + ms) Q (F0 m (pc + 3) ls (.long r :: rest))) : W p l e R s m args below meth c H locs cells slots Q (F0 m pc ls st0) := by
  have hFc := va_free (wc := wc) hD hS hA isC hC
  refine va_calll hr hS (fun q _ h => hFc q h) hFc (fun r u t H1 locs1 ht hvm hw hB hz1 hk1 hS1 => ?_)
  obtain ⟨hP1, hK1, hD1⟩ := hB
  rw [ht] at hP1
  obtain ⟨hP2, hD2⟩ := va_join hP hD isC isR hC hR hn hdis hk1 hFc hP1 hD1
  exact kk r H1 locs1 hw hP2 hD2 hS1
theorem cl_q {post : Option Nat → Unit → Prop} (hr : va_Run p l e R s m args below meth c H locs cells slots mc ms (F0 m pc ls st0) rest (va_Qq post (fun _ t => va_P D cl w1 t.heap ∧ va_K D cl tys t ∧ va_D (va_A wc H.size) w1) (va_A wc H.size) a) (va_A wc H.size)) (hP : va_P D cl ws H) (hD : va_D A0 ws) (hS : va_S A0 H0 H locs) (hA : ∀ q, H0.size ≤ q → A0 q) (isC isR : List Nat) (hC : isC.map (fun i => ws[i]?) = wc.map some) (hR : isR.map (fun i => ws[i]?) = wr.map some) (hn : va_nd isR = true) (hdis : ∀ i ∈ isR, i ∉ isC)
    (kk : ∀ (r : Option Nat) (H1 : Heap) (locs1 : List Loc), post r () → va_P D cl (wr ++ w1) H1 → va_D A0 (wr ++ w1) → va_S A0 H0 H1 locs1 → W p l e R s m args below meth c H1 locs1 (cells + mc) (slots + ms) Q (F0 m (pc + 3) ls (va_rf r :: rest))) : W p l e R s m args below meth c H locs cells slots Q (F0 m pc ls st0) := by
  have hFc := va_free (wc := wc) hD hS hA isC hC
  refine va_callq hr hS (fun q _ h => hFc q h) hFc (fun r u t H1 locs1 ht hvm hw hB hz1 hk1 hS1 => ?_)
  obtain ⟨hP1, hK1, hD1⟩ := hB
  rw [ht] at hP1
  obtain ⟨hP2, hD2⟩ := va_join hP hD isC isR hC hR hn hdis hk1 hFc hP1 hD1
  exact kk r H1 locs1 hw hP2 hD2 hS1
theorem cl_v {post : Unit → Prop} (hr : va_Run p l e R s m args below meth c H locs cells slots mc ms (F0 m pc ls st0) rest (va_Qv post (fun _ t => va_P D cl w1 t.heap ∧ va_K D cl tys t ∧ va_D (va_A wc H.size) w1) (va_A wc H.size) a) (va_A wc H.size)) (hP : va_P D cl ws H) (hD : va_D A0 ws) (hS : va_S A0 H0 H locs) (hA : ∀ q, H0.size ≤ q → A0 q) (isC isR : List Nat) (hC : isC.map (fun i => ws[i]?) = wc.map some) (hR : isR.map (fun i => ws[i]?) = wr.map some) (hn : va_nd isR = true) (hdis : ∀ i ∈ isR, i ∉ isC)
    (kk : ∀ (H1 : Heap) (locs1 : List Loc), post () → va_P D cl (wr ++ w1) H1 → va_D A0 (wr ++ w1) → va_S A0 H0 H1 locs1 → W p l e R s m args below meth c H1 locs1 (cells + mc) (slots + ms) Q (F0 m (pc + 3) ls (rest))) : W p l e R s m args below meth c H locs cells slots Q (F0 m pc ls st0) := by
  have hFc := va_free (wc := wc) hD hS hA isC hC
  refine va_callv hr hS (fun q _ h => hFc q h) hFc (fun u t H1 locs1 ht hvm hw hB hz1 hk1 hS1 => ?_)
  obtain ⟨hP1, hK1, hD1⟩ := hB
  rw [ht] at hP1
  obtain ⟨hP2, hD2⟩ := va_join hP hD isC isR hC hR hn hdis hk1 hFc hP1 hD1
  exact kk H1 locs1 hw hP2 hD2 hS1
end CL
section CLR
variable {p : Program} {l : Launch} {e : Env} {R : Room} {s : State} {m : MethodId} {args : Array Value} {below : List Frame} {meth : Method} {c : Code} {H : Heap} {locs : List Loc} {cells slots : Nat} {Q : State → Prop} {pc mc ms : Nat} {ls : Array Slot} {rest st0 : List Value} {a : Array Value} {A0 : Nat → Prop} {H0 : Heap} {D : va_G} {cl : List vw_C} {tys : List (ClassId × FieldType)} {ws wc : va_W}
/-- behind a call that leaves its world as it was: the caller's world stands -/
theorem ro_join {H1 : Heap} (hP : va_P D cl ws H) (hD : va_D A0 ws) (hin : inW wc ws) (hk : ∀ q : Nat, q < H.size → ¬ va_A wc H.size q → H1[q]? = H[q]?) (hP1 : va_P D cl wc H1) : va_P D cl ws H1 := by
  intro k q hq
  by_cases hi : ∃ (j : Nat) (e : va_E), wc[j]? = some (q.1, e)
  · obtain ⟨j, e, hj⟩ := hi
    obtain ⟨i, h2⟩ := hin j _ hj
    have hik := hD.1 i k (q.1, e) q h2 hq rfl
    subst hik
    have hqe : q = (q.1, e) := Option.some.inj (hq.symm.trans h2)
    rw [hqe]
    exact hP1 j _ hj
  · have hl := (hP k q hq).lt
    refine (hP k q hq).kept (hk q.1 hl (fun h => ?_))
    rcases h with ⟨j, e, h⟩ | h
    · exact hi ⟨j, e, h⟩
    · omega
theorem cr_i {post : Int32 → Unit → Prop} (hr : va_Run p l e R s m args below meth c H locs cells slots mc ms (F0 m pc ls st0) rest (va_Qi post (fun _ t => va_P D cl wc t.heap ∧ va_K D cl tys t ∧ va_D (va_A wc H.size) wc) (va_A wc H.size) a) (va_A wc H.size)) (hP : va_P D cl ws H) (hD : va_D A0 ws) (hS : va_S A0 H0 H locs) (hA : ∀ q, H0.size ≤ q → A0 q) (hin : inW wc ws)
    (kk : ∀ (r : Int32) (H1 : Heap) (locs1 : List Loc), post r () → va_P D cl ws H1 → va_S A0 H0 H1 locs1 → W p l e R s m args below meth c H1 locs1 (cells + mc) (slots + ms) Q (F0 m (pc + 3) ls (.int r :: rest))) : W p l e R s m args below meth c H locs cells slots Q (F0 m pc ls st0) := by
  have hFc := in_free hD hS hA hin
  refine va_calli hr hS (fun q _ h => hFc q h) hFc (fun r u t H1 locs1 ht hvm hw hB hz1 hk1 hS1 => ?_)
  obtain ⟨hP1, hK1, hD1⟩ := hB
  rw [ht] at hP1
  exact kk r H1 locs1 hw (ro_join hP hD hin hk1 hP1) hS1
theorem cr_l {post : Int64 → Unit → Prop} (hr : va_Run p l e R s m args below meth c H locs cells slots mc ms (F0 m pc ls st0) rest (va_Ql post (fun _ t => va_P D cl wc t.heap ∧ va_K D cl tys t ∧ va_D (va_A wc H.size) wc) (va_A wc H.size) a) (va_A wc H.size)) (hP : va_P D cl ws H) (hD : va_D A0 ws) (hS : va_S A0 H0 H locs) (hA : ∀ q, H0.size ≤ q → A0 q) (hin : inW wc ws)
    (kk : ∀ (r : Int64) (H1 : Heap) (locs1 : List Loc), post r () → va_P D cl ws H1 → va_S A0 H0 H1 locs1 → W p l e R s m args below meth c H1 locs1 (cells + mc) (slots + ms) Q (F0 m (pc + 3) ls (.long r :: rest))) : W p l e R s m args below meth c H locs cells slots Q (F0 m pc ls st0) := by
  have hFc := in_free hD hS hA hin
  refine va_calll hr hS (fun q _ h => hFc q h) hFc (fun r u t H1 locs1 ht hvm hw hB hz1 hk1 hS1 => ?_)
  obtain ⟨hP1, hK1, hD1⟩ := hB
  rw [ht] at hP1
  exact kk r H1 locs1 hw (ro_join hP hD hin hk1 hP1) hS1
theorem cr_q {post : Option Nat → Unit → Prop} (hr : va_Run p l e R s m args below meth c H locs cells slots mc ms (F0 m pc ls st0) rest (va_Qq post (fun _ t => va_P D cl wc t.heap ∧ va_K D cl tys t ∧ va_D (va_A wc H.size) wc) (va_A wc H.size) a) (va_A wc H.size)) (hP : va_P D cl ws H) (hD : va_D A0 ws) (hS : va_S A0 H0 H locs) (hA : ∀ q, H0.size ≤ q → A0 q) (hin : inW wc ws)
    (kk : ∀ (r : Option Nat) (H1 : Heap) (locs1 : List Loc), post r () → va_P D cl ws H1 → va_S A0 H0 H1 locs1 → W p l e R s m args below meth c H1 locs1 (cells + mc) (slots + ms) Q (F0 m (pc + 3) ls (va_rf r :: rest))) : W p l e R s m args below meth c H locs cells slots Q (F0 m pc ls st0) := by
  have hFc := in_free hD hS hA hin
  refine va_callq hr hS (fun q _ h => hFc q h) hFc (fun r u t H1 locs1 ht hvm hw hB hz1 hk1 hS1 => ?_)
  obtain ⟨hP1, hK1, hD1⟩ := hB
  rw [ht] at hP1
  exact kk r H1 locs1 hw (ro_join hP hD hin hk1 hP1) hS1
theorem cr_v {post : Unit → Prop} (hr : va_Run p l e R s m args below meth c H locs cells slots mc ms (F0 m pc ls st0) rest (va_Qv post (fun _ t => va_P D cl wc t.heap ∧ va_K D cl tys t ∧ va_D (va_A wc H.size) wc) (va_A wc H.size) a) (va_A wc H.size)) (hP : va_P D cl ws H) (hD : va_D A0 ws) (hS : va_S A0 H0 H locs) (hA : ∀ q, H0.size ≤ q → A0 q) (hin : inW wc ws)
    (kk : ∀ (H1 : Heap) (locs1 : List Loc), post () → va_P D cl ws H1 → va_S A0 H0 H1 locs1 → W p l e R s m args below meth c H1 locs1 (cells + mc) (slots + ms) Q (F0 m (pc + 3) ls (rest))) : W p l e R s m args below meth c H locs cells slots Q (F0 m pc ls st0) := by
  have hFc := in_free hD hS hA hin
  refine va_callv hr hS (fun q _ h => hFc q h) hFc (fun u t H1 locs1 ht hvm hw hB hz1 hk1 hS1 => ?_)
  obtain ⟨hP1, hK1, hD1⟩ := hB
  rw [ht] at hP1
  exact kk H1 locs1 hw (ro_join hP hD hin hk1 hP1) hS1
end CLR
/-! POOLS: a caller with a pool behind its fixed cells -/
section CLP
variable {p : Program} {l : Launch} {e : Env} {R : Room} {s : State} {m : MethodId} {args : Array Value} {below : List Frame} {meth : Method} {c : Code} {H : Heap} {locs : List Loc} {cells slots : Nat} {Q : State → Prop} {pc mc ms : Nat} {ls : Array Slot} {rest st0 : List Value} {a : Array Value} {A0 : Nat → Prop} {H0 : Heap} {D : va_G} {cl : List vw_C} {tys : List (ClassId × FieldType)} {X cx wr rx w1 pl pl1 : va_W}
theorem cp_i {post : Int32 → Unit → Prop} (hr : va_Run p l e R s m args below meth c H locs cells slots mc ms (F0 m pc ls st0) rest (va_Qi post (fun _ t => va_P D cl (rx ++ pl1) t.heap ∧ va_K D cl tys t ∧ va_D (va_A (cx ++ pl) H.size) (rx ++ pl1)) (va_A (cx ++ pl) H.size) a) (va_A (cx ++ pl) H.size)) (hP : va_P D cl (X ++ pl) H) (hD : va_D A0 (X ++ pl)) (hS : va_S A0 H0 H locs) (hA : ∀ q, H0.size ≤ q → A0 q) (isC isR : List Nat) (hC : isC.map (fun i => X[i]?) = cx.map some) (hR : isR.map (fun i => X[i]?) = wr.map some) (hn : va_nd isR = true) (hdis : ∀ i ∈ isR, i ∉ isC)
    (kk : ∀ (r : Int32) (H1 : Heap) (locs1 : List Loc), post r () → va_P D cl ((wr ++ rx) ++ pl1) H1 → va_D A0 ((wr ++ rx) ++ pl1) → va_S A0 H0 H1 locs1 → W p l e R s m args below meth c H1 locs1 (cells + mc) (slots + ms) Q (F0 m (pc + 3) ls (.int r :: rest))) : W p l e R s m args below meth c H locs cells slots Q (F0 m pc ls st0) := by
  have hFc := va_freeP (cx := cx) hD hS hA isC hC
  refine va_calli hr hS (fun q _ h => hFc q h) hFc (fun r u t H1 locs1 ht hvm hw hB hz1 hk1 hS1 => ?_)
  obtain ⟨hP1, hK1, hD1⟩ := hB
  rw [ht] at hP1
  obtain ⟨hP2, hD2⟩ := va_joinP hP hD isC isR hC hR hn hdis hk1 hFc hP1 hD1
  exact kk r H1 locs1 hw hP2 hD2 hS1
theorem cq_i {post : Int32 → Unit → Prop} (hr : va_Run p l e R s m args below meth c H locs cells slots mc ms (F0 m pc ls st0) rest (va_Qi post (fun _ t => va_P D cl w1 t.heap ∧ va_K D cl tys t ∧ va_D (va_A cx H.size) w1) (va_A cx H.size) a) (va_A cx H.size)) (hP : va_P D cl (X ++ pl) H) (hD : va_D A0 (X ++ pl)) (hS : va_S A0 H0 H locs) (hA : ∀ q, H0.size ≤ q → A0 q) (isC isR : List Nat) (hC : isC.map (fun i => X[i]?) = cx.map some) (hC2 : isC.map (fun i => (X ++ pl)[i]?) = cx.map some) (hR : isR.map (fun i => X[i]?) = wr.map some) (hn : va_nd isR = true) (hdis : ∀ i ∈ isR, i ∉ isC)
    (kk : ∀ (r : Int32) (H1 : Heap) (locs1 : List Loc), post r () → va_P D cl ((wr ++ w1) ++ pl) H1 → va_D A0 ((wr ++ w1) ++ pl) → va_S A0 H0 H1 locs1 → W p l e R s m args below meth c H1 locs1 (cells + mc) (slots + ms) Q (F0 m (pc + 3) ls (.int r :: rest))) : W p l e R s m args below meth c H locs cells slots Q (F0 m pc ls st0) := by
  have hFc := in_free hD hS hA (in_of isC hC2)
  refine va_calli hr hS (fun q _ h => hFc q h) hFc (fun r u t H1 locs1 ht hvm hw hB hz1 hk1 hS1 => ?_)
  obtain ⟨hP1, hK1, hD1⟩ := hB
  rw [ht] at hP1
  obtain ⟨hP2, hD2⟩ := va_joinQ hP hD isC isR hC hR hn hdis hk1 hFc hP1 hD1
  exact kk r H1 locs1 hw hP2 hD2 hS1
theorem cp_l {post : Int64 → Unit → Prop} (hr : va_Run p l e R s m args below meth c H locs cells slots mc ms (F0 m pc ls st0) rest (va_Ql post (fun _ t => va_P D cl (rx ++ pl1) t.heap ∧ va_K D cl tys t ∧ va_D (va_A (cx ++ pl) H.size) (rx ++ pl1)) (va_A (cx ++ pl) H.size) a) (va_A (cx ++ pl) H.size)) (hP : va_P D cl (X ++ pl) H) (hD : va_D A0 (X ++ pl)) (hS : va_S A0 H0 H locs) (hA : ∀ q, H0.size ≤ q → A0 q) (isC isR : List Nat) (hC : isC.map (fun i => X[i]?) = cx.map some) (hR : isR.map (fun i => X[i]?) = wr.map some) (hn : va_nd isR = true) (hdis : ∀ i ∈ isR, i ∉ isC)
    (kk : ∀ (r : Int64) (H1 : Heap) (locs1 : List Loc), post r () → va_P D cl ((wr ++ rx) ++ pl1) H1 → va_D A0 ((wr ++ rx) ++ pl1) → va_S A0 H0 H1 locs1 → W p l e R s m args below meth c H1 locs1 (cells + mc) (slots + ms) Q (F0 m (pc + 3) ls (.long r :: rest))) : W p l e R s m args below meth c H locs cells slots Q (F0 m pc ls st0) := by
  have hFc := va_freeP (cx := cx) hD hS hA isC hC
  refine va_calll hr hS (fun q _ h => hFc q h) hFc (fun r u t H1 locs1 ht hvm hw hB hz1 hk1 hS1 => ?_)
  obtain ⟨hP1, hK1, hD1⟩ := hB
  rw [ht] at hP1
  obtain ⟨hP2, hD2⟩ := va_joinP hP hD isC isR hC hR hn hdis hk1 hFc hP1 hD1
  exact kk r H1 locs1 hw hP2 hD2 hS1
theorem cq_l {post : Int64 → Unit → Prop} (hr : va_Run p l e R s m args below meth c H locs cells slots mc ms (F0 m pc ls st0) rest (va_Ql post (fun _ t => va_P D cl w1 t.heap ∧ va_K D cl tys t ∧ va_D (va_A cx H.size) w1) (va_A cx H.size) a) (va_A cx H.size)) (hP : va_P D cl (X ++ pl) H) (hD : va_D A0 (X ++ pl)) (hS : va_S A0 H0 H locs) (hA : ∀ q, H0.size ≤ q → A0 q) (isC isR : List Nat) (hC : isC.map (fun i => X[i]?) = cx.map some) (hC2 : isC.map (fun i => (X ++ pl)[i]?) = cx.map some) (hR : isR.map (fun i => X[i]?) = wr.map some) (hn : va_nd isR = true) (hdis : ∀ i ∈ isR, i ∉ isC)
    (kk : ∀ (r : Int64) (H1 : Heap) (locs1 : List Loc), post r () → va_P D cl ((wr ++ w1) ++ pl) H1 → va_D A0 ((wr ++ w1) ++ pl) → va_S A0 H0 H1 locs1 → W p l e R s m args below meth c H1 locs1 (cells + mc) (slots + ms) Q (F0 m (pc + 3) ls (.long r :: rest))) : W p l e R s m args below meth c H locs cells slots Q (F0 m pc ls st0) := by
  have hFc := in_free hD hS hA (in_of isC hC2)
  refine va_calll hr hS (fun q _ h => hFc q h) hFc (fun r u t H1 locs1 ht hvm hw hB hz1 hk1 hS1 => ?_)
  obtain ⟨hP1, hK1, hD1⟩ := hB
  rw [ht] at hP1
  obtain ⟨hP2, hD2⟩ := va_joinQ hP hD isC isR hC hR hn hdis hk1 hFc hP1 hD1
  exact kk r H1 locs1 hw hP2 hD2 hS1
theorem cp_q {post : Option Nat → Unit → Prop} (hr : va_Run p l e R s m args below meth c H locs cells slots mc ms (F0 m pc ls st0) rest (va_Qq post (fun _ t => va_P D cl (rx ++ pl1) t.heap ∧ va_K D cl tys t ∧ va_D (va_A (cx ++ pl) H.size) (rx ++ pl1)) (va_A (cx ++ pl) H.size) a) (va_A (cx ++ pl) H.size)) (hP : va_P D cl (X ++ pl) H) (hD : va_D A0 (X ++ pl)) (hS : va_S A0 H0 H locs) (hA : ∀ q, H0.size ≤ q → A0 q) (isC isR : List Nat) (hC : isC.map (fun i => X[i]?) = cx.map some) (hR : isR.map (fun i => X[i]?) = wr.map some) (hn : va_nd isR = true) (hdis : ∀ i ∈ isR, i ∉ isC)
    (kk : ∀ (r : Option Nat) (H1 : Heap) (locs1 : List Loc), post r () → va_P D cl ((wr ++ rx) ++ pl1) H1 → va_D A0 ((wr ++ rx) ++ pl1) → va_S A0 H0 H1 locs1 → W p l e R s m args below meth c H1 locs1 (cells + mc) (slots + ms) Q (F0 m (pc + 3) ls (va_rf r :: rest))) : W p l e R s m args below meth c H locs cells slots Q (F0 m pc ls st0) := by
  have hFc := va_freeP (cx := cx) hD hS hA isC hC
  refine va_callq hr hS (fun q _ h => hFc q h) hFc (fun r u t H1 locs1 ht hvm hw hB hz1 hk1 hS1 => ?_)
  obtain ⟨hP1, hK1, hD1⟩ := hB
  rw [ht] at hP1
  obtain ⟨hP2, hD2⟩ := va_joinP hP hD isC isR hC hR hn hdis hk1 hFc hP1 hD1
  exact kk r H1 locs1 hw hP2 hD2 hS1
theorem cq_q {post : Option Nat → Unit → Prop} (hr : va_Run p l e R s m args below meth c H locs cells slots mc ms (F0 m pc ls st0) rest (va_Qq post (fun _ t => va_P D cl w1 t.heap ∧ va_K D cl tys t ∧ va_D (va_A cx H.size) w1) (va_A cx H.size) a) (va_A cx H.size)) (hP : va_P D cl (X ++ pl) H) (hD : va_D A0 (X ++ pl)) (hS : va_S A0 H0 H locs) (hA : ∀ q, H0.size ≤ q → A0 q) (isC isR : List Nat) (hC : isC.map (fun i => X[i]?) = cx.map some) (hC2 : isC.map (fun i => (X ++ pl)[i]?) = cx.map some) (hR : isR.map (fun i => X[i]?) = wr.map some) (hn : va_nd isR = true) (hdis : ∀ i ∈ isR, i ∉ isC)
    (kk : ∀ (r : Option Nat) (H1 : Heap) (locs1 : List Loc), post r () → va_P D cl ((wr ++ w1) ++ pl) H1 → va_D A0 ((wr ++ w1) ++ pl) → va_S A0 H0 H1 locs1 → W p l e R s m args below meth c H1 locs1 (cells + mc) (slots + ms) Q (F0 m (pc + 3) ls (va_rf r :: rest))) : W p l e R s m args below meth c H locs cells slots Q (F0 m pc ls st0) := by
  have hFc := in_free hD hS hA (in_of isC hC2)
  refine va_callq hr hS (fun q _ h => hFc q h) hFc (fun r u t H1 locs1 ht hvm hw hB hz1 hk1 hS1 => ?_)
  obtain ⟨hP1, hK1, hD1⟩ := hB
  rw [ht] at hP1
  obtain ⟨hP2, hD2⟩ := va_joinQ hP hD isC isR hC hR hn hdis hk1 hFc hP1 hD1
  exact kk r H1 locs1 hw hP2 hD2 hS1
theorem cp_v {post : Unit → Prop} (hr : va_Run p l e R s m args below meth c H locs cells slots mc ms (F0 m pc ls st0) rest (va_Qv post (fun _ t => va_P D cl (rx ++ pl1) t.heap ∧ va_K D cl tys t ∧ va_D (va_A (cx ++ pl) H.size) (rx ++ pl1)) (va_A (cx ++ pl) H.size) a) (va_A (cx ++ pl) H.size)) (hP : va_P D cl (X ++ pl) H) (hD : va_D A0 (X ++ pl)) (hS : va_S A0 H0 H locs) (hA : ∀ q, H0.size ≤ q → A0 q) (isC isR : List Nat) (hC : isC.map (fun i => X[i]?) = cx.map some) (hR : isR.map (fun i => X[i]?) = wr.map some) (hn : va_nd isR = true) (hdis : ∀ i ∈ isR, i ∉ isC)
    (kk : ∀ (H1 : Heap) (locs1 : List Loc), post () → va_P D cl ((wr ++ rx) ++ pl1) H1 → va_D A0 ((wr ++ rx) ++ pl1) → va_S A0 H0 H1 locs1 → W p l e R s m args below meth c H1 locs1 (cells + mc) (slots + ms) Q (F0 m (pc + 3) ls (rest))) : W p l e R s m args below meth c H locs cells slots Q (F0 m pc ls st0) := by
  have hFc := va_freeP (cx := cx) hD hS hA isC hC
  refine va_callv hr hS (fun q _ h => hFc q h) hFc (fun u t H1 locs1 ht hvm hw hB hz1 hk1 hS1 => ?_)
  obtain ⟨hP1, hK1, hD1⟩ := hB
  rw [ht] at hP1
  obtain ⟨hP2, hD2⟩ := va_joinP hP hD isC isR hC hR hn hdis hk1 hFc hP1 hD1
  exact kk H1 locs1 hw hP2 hD2 hS1
theorem cq_v {post : Unit → Prop} (hr : va_Run p l e R s m args below meth c H locs cells slots mc ms (F0 m pc ls st0) rest (va_Qv post (fun _ t => va_P D cl w1 t.heap ∧ va_K D cl tys t ∧ va_D (va_A cx H.size) w1) (va_A cx H.size) a) (va_A cx H.size)) (hP : va_P D cl (X ++ pl) H) (hD : va_D A0 (X ++ pl)) (hS : va_S A0 H0 H locs) (hA : ∀ q, H0.size ≤ q → A0 q) (isC isR : List Nat) (hC : isC.map (fun i => X[i]?) = cx.map some) (hC2 : isC.map (fun i => (X ++ pl)[i]?) = cx.map some) (hR : isR.map (fun i => X[i]?) = wr.map some) (hn : va_nd isR = true) (hdis : ∀ i ∈ isR, i ∉ isC)
    (kk : ∀ (H1 : Heap) (locs1 : List Loc), post () → va_P D cl ((wr ++ w1) ++ pl) H1 → va_D A0 ((wr ++ w1) ++ pl) → va_S A0 H0 H1 locs1 → W p l e R s m args below meth c H1 locs1 (cells + mc) (slots + ms) Q (F0 m (pc + 3) ls (rest))) : W p l e R s m args below meth c H locs cells slots Q (F0 m pc ls st0) := by
  have hFc := in_free hD hS hA (in_of isC hC2)
  refine va_callv hr hS (fun q _ h => hFc q h) hFc (fun u t H1 locs1 ht hvm hw hB hz1 hk1 hS1 => ?_)
  obtain ⟨hP1, hK1, hD1⟩ := hB
  rw [ht] at hP1
  obtain ⟨hP2, hD2⟩ := va_joinQ hP hD isC isR hC hR hn hdis hk1 hFc hP1 hD1
  exact kk H1 locs1 hw hP2 hD2 hS1
end CLP
/-! a constructor's call: its world comes with addresses and classes that are new -/
section CLN
variable {p : Program} {l : Launch} {e : Env} {R : Room} {s : State} {m : MethodId} {args : Array Value} {below : List Frame} {meth : Method} {c : Code} {H : Heap} {locs : List Loc} {cells slots : Nat} {Q : State → Prop} {pc mc ms : Nat} {ls : Array Slot} {rest st0 : List Value} {a : Array Value} {A0 : Nat → Prop} {H0 : Heap} {D : va_G} {cl : List vw_C} {tys : List (ClassId × FieldType)} {ws wc wr : va_W}
theorem cn_v {S : Type} {post : S → Prop} {w1 : S → va_W} {ty1 : S → List (ClassId × FieldType)} (hr : va_Run p l e R s m args below meth c H locs cells slots mc ms (F0 m pc ls st0) rest (va_Qv post (fun u t => va_P D cl (w1 u) t.heap ∧ va_K D cl (ty1 u) t ∧ va_D (va_A wc H.size) (w1 u)) (va_A wc H.size) a) (va_A wc H.size)) (hP : va_P D cl ws H) (hD : va_D A0 ws) (hK : va_K D cl tys s) (hS : va_S A0 H0 H locs) (hA : ∀ q, H0.size ≤ q → A0 q) (isC isR : List Nat) (hC : isC.map (fun i => ws[i]?) = wc.map some) (hR : isR.map (fun i => ws[i]?) = wr.map some) (hn : va_nd isR = true) (hdis : ∀ i ∈ isR, i ∉ isC)
    (kk : ∀ (u : S) (H1 : Heap) (locs1 : List Loc), va_K D cl (tys ++ ty1 u) s → va_P D cl (wr ++ w1 u) H1 → va_D A0 (wr ++ w1 u) → va_S A0 H0 H1 locs1 → W p l e R s m args below meth c H1 locs1 (cells + mc) (slots + ms) Q (F0 m (pc + 3) ls rest)) : W p l e R s m args below meth c H locs cells slots Q (F0 m pc ls st0) := by
  have hFc := va_free (wc := wc) hD hS hA isC hC
  refine va_callv hr hS (fun q _ h => hFc q h) hFc (fun u t H1 locs1 ht hvm hw hB hz1 hk1 hS1 => ?_)
  obtain ⟨hP1, hK1, hD1⟩ := hB
  rw [ht] at hP1
  have hK1 := va_K.moved hvm.symm hK1
  obtain ⟨hP2, hD2⟩ := va_join hP hD isC isR hC hR hn hdis hk1 hFc hP1 hD1
  exact kk u H1 locs1 (hK.app hK1) hP2 hD2 hS1
end CLN
/-! THE NAMES: a pool of Name objects and their letters. A name: its address, its letters' address, how many, the letters, barred, worth, where -/
abbrev NmR : Type := Nat × Nat × Nat × (Nat → Int32) × Int32 × Int64 × Int32
def nmE (r : NmR) : va_E := .inr (3, [.ref r.2.1, .int r.2.2.2.2.1, .long r.2.2.2.2.2.1, .int r.2.2.2.2.2.2])
def ltE (cB : ClassId) (r : NmR) : va_E := .inl (cB, r.2.2.1, .inl r.2.2.2.1)
def np (cB : ClassId) (ns : List NmR) : va_W := ns.flatMap (fun r => [(r.1, nmE r), (r.2.1, ltE cB r)])
def nsg (ns : List NmR) (z : Nat) : Option NmR := ns.find? (fun r => r.1 == z)
theorem nsg_mem {ns : List NmR} {z : Nat} {r : NmR} (h : nsg ns z = some r) : r ∈ ns ∧ r.1 = z := by
  refine ⟨List.mem_of_find?_eq_some h, ?_⟩
  have h1 := List.find?_some h
  simpa using h1
theorem mem_at {X pl : va_W} {q : Nat × va_E} (h : q ∈ pl) : ∃ k : Nat, (X ++ pl)[k]? = some q ∧ X.length ≤ k := by
  obtain ⟨i, hi⟩ := List.getElem?_of_mem h
  refine ⟨X.length + i, ?_, Nat.le_add_right _ _⟩
  rw [List.getElem?_append_right (Nat.le_add_right _ _)]
  rw [show X.length + i - X.length = i by omega]
  exact hi
theorem np_get {X : va_W} {cB : ClassId} {ns : List NmR} {z : Nat} {r : NmR} (h : nsg ns z = some r) : ∃ k : Nat, (X ++ np cB ns)[k]? = some (z, nmE r) ∧ X.length ≤ k := by
  obtain ⟨h1, h2⟩ := nsg_mem h
  subst h2
  exact mem_at (List.mem_flatMap.mpr ⟨r, h1, List.mem_cons_self⟩)
theorem lt_in {X : va_W} {cB : ClassId} {ns : List NmR} {z : Nat} {r : NmR} (h : nsg ns z = some r) : ∃ k : Nat, (X ++ np cB ns)[k]? = some (r.2.1, ltE cB r) ∧ X.length ≤ k := by
  obtain ⟨h1, h2⟩ := nsg_mem h
  exact mem_at (List.mem_flatMap.mpr ⟨r, h1, List.mem_cons_of_mem _ List.mem_cons_self⟩)
theorem P_in {D : va_G} {cl : List vw_C} {ws wc : va_W} {H : Heap} (hP : va_P D cl ws H) (h : inW wc ws) : va_P D cl wc H := fun j q hq => by
  obtain ⟨i, hi⟩ := h j q hq
  exact hP i q hi
theorem in_let {X cx pl : va_W} {c : Nat × va_E} {k : Nat} (isC : List Nat) (hC : isC.map (fun i => X[i]?) = cx.map some) (hi : (X ++ pl)[k]? = some c) : inW (cx ++ [c]) (X ++ pl) := fun j q h => by
  rcases List.mem_append.mp (List.mem_of_getElem? h) with h1 | h1
  · obtain ⟨j2, h2⟩ := List.getElem?_of_mem h1
    obtain ⟨i, -, h3⟩ := va_in_of isC hC h2
    have hl : i < X.length := (List.getElem?_eq_some_iff.mp h3).1
    exact ⟨i, by rw [List.getElem?_append_left hl]; exact h3⟩
  · rw [List.mem_singleton.mp h1]
    exact ⟨k, hi⟩
theorem D_let {A : Nat → Prop} {X cx pl : va_W} {c : Nat × va_E} {k : Nat} (hD : va_D A (X ++ pl)) (isC : List Nat) (hn : va_nd isC = true) (hC : isC.map (fun i => X[i]?) = cx.map some) (hi : (X ++ pl)[k]? = some c) (hj : X.length ≤ k) : va_D A (cx ++ [c]) := by
  have lift : ∀ (i : Nat) (q : Nat × va_E), X[i]? = some q → (X ++ pl)[i]? = some q := fun i q h => by
    have hl : i < X.length := (List.getElem?_eq_some_iff.mp h).1
    rw [List.getElem?_append_left hl]; exact h
  have hDX : va_D A X := ⟨fun i j p q h1 h2 h3 => hD.1 i j p q (lift i p h1) (lift j q h2) h3, fun i q h => hD.2 i q (lift i q h)⟩
  refine va_D.app (hDX.sub isC hn hC) ⟨fun i j p q h1 h2 _ => ?_, fun i q h => ?_⟩ (fun i j p q h1 h2 h3 => ?_)
  · have h1 := (List.getElem?_eq_some_iff.mp h1).1
    have h2 := (List.getElem?_eq_some_iff.mp h2).1
    simp at h1 h2
    omega
  · have hq : q = c := List.mem_singleton.mp (List.mem_of_getElem? h)
    rw [hq]; exact hD.2 k c hi
  · have hq : q = c := List.mem_singleton.mp (List.mem_of_getElem? h2)
    obtain ⟨i2, -, h4⟩ := va_in_of isC hC h1
    have hl : i2 < X.length := (List.getElem?_eq_some_iff.mp h4).1
    have := hD.1 i2 k p c (lift i2 p h4) hi (by rw [h3, hq])
    omega
abbrev w_R_init : List Cond := .code y_R_init b_R_init 1 none :: WB
abbrev w_R_type : List Cond := .code y_R_type b_R_type 4 (some .boolean) :: WB
abbrev w_R_bar : List Cond := .code y_R_bar b_R_bar 1 (some .boolean) :: WB
abbrev w_R_place : List Cond := .code y_R_place b_R_place 2 (some .int) :: WB
abbrev w_R_constant : List Cond := .code y_R_constant b_R_constant 3 (some .boolean) :: WB
abbrev w_R_read : List Cond := .code y_R_read b_R_read 2 (some .int) :: WB
abbrev w_R_fault : List Cond := .code y_R_fault b_R_fault 1 (some .int) :: WB
abbrev w_R_value : List Cond := .code y_R_value b_R_value 1 (some .long) :: WB
abbrev w_R_side : List Cond := .code y_R_side b_R_side 2 (some .int) :: WB
abbrev w_R_token : List Cond := .code y_R_token b_R_token 3 (some .int) :: WB
abbrev w_R_learnName : List Cond := .code y_R_learnName b_R_learnName 5 (some .boolean) :: WB
abbrev w_R_kindOfLatest : List Cond := .code y_R_kindOfLatest b_R_kindOfLatest 1 (some .int) :: WB
abbrev w_L_init : List Cond := .code y_L_init b_L_init 1 none :: WB
abbrev w_L_append : List Cond := .code y_L_append b_L_append 5 (some .boolean) :: WB
abbrev w_L_clear : List Cond := .code y_L_clear b_L_clear 1 none :: WB
abbrev w_L_size : List Cond := .code y_L_size b_L_size 1 (some .int) :: WB
abbrev w_L_at : List Cond := .code y_L_at b_L_at 2 (some .int) :: WB
abbrev w_L_copy : List Cond := .code y_L_copy b_L_copy 3 (some (.object "")) :: WB
abbrev w_L_holds : List Cond := .code y_L_holds b_L_holds 5 (some .boolean) :: WB
abbrev w_T_init : List Cond := .code y_T_init b_T_init 1 none :: WB
abbrev w_T_cut : List Cond := .code y_T_cut b_T_cut 5 none :: WB
abbrev w_T_size : List Cond := .code y_T_size b_T_size 1 (some .int) :: WB
abbrev w_T_areSound : List Cond := .code y_T_areSound b_T_areSound 1 (some .boolean) :: WB
abbrev w_T_areJustOneName : List Cond := .code y_T_areJustOneName b_T_areJustOneName 1 (some .boolean) :: WB
abbrev w_T_kindOf : List Cond := .code y_T_kindOf b_T_kindOf 2 (some .int) :: WB
abbrev w_T_beginOf : List Cond := .code y_T_beginOf b_T_beginOf 2 (some .int) :: WB
abbrev w_T_endOf : List Cond := .code y_T_endOf b_T_endOf 2 (some .int) :: WB
abbrev w_T_worthOf : List Cond := .code y_T_worthOf b_T_worthOf 2 (some .long) :: WB
abbrev w_T_lowWorthOf : List Cond := .code y_T_lowWorthOf b_T_lowWorthOf 2 (some .int) :: WB
abbrev w_T_signOf : List Cond := .code y_T_signOf b_T_signOf 2 (some .int) :: WB
abbrev w_T_has : List Cond := .code y_T_has b_T_has 2 (some .boolean) :: WB
abbrev w_T_cutOne : List Cond := .code y_T_cutOne b_T_cutOne 4 (some .int) :: WB
abbrev w_T_cutName : List Cond := .code y_T_cutName b_T_cutName 4 (some .int) :: WB
abbrev w_T_cutNumber : List Cond := .code y_T_cutNumber b_T_cutNumber 10 (some .int) :: WB
abbrev w_T_cutCharacter : List Cond := .code y_T_cutCharacter b_T_cutCharacter 6 (some .int) :: WB
abbrev w_T_cutText : List Cond := .code y_T_cutText b_T_cutText 4 (some .int) :: WB
abbrev w_T_cutSign : List Cond := .code y_T_cutSign b_T_cutSign 4 (some .int) :: WB
abbrev w_T_keep : List Cond := .code y_T_keep b_T_keep 6 (some .int) :: WB
abbrev w_S_isDigit : List Cond := .code y_S_isDigit b_S_isDigit 1 (some .boolean) :: WB
abbrev w_S_isOfNames : List Cond := .code y_S_isOfNames b_S_isOfNames 1 (some .boolean) :: WB
abbrev w_S_isPrintable : List Cond := .code y_S_isPrintable b_S_isPrintable 1 (some .boolean) :: WB
abbrev w_S_nextStart : List Cond := .code y_S_nextStart b_S_nextStart 4 (some .int) :: WB
abbrev w_S_endOfName : List Cond := .code y_S_endOfName b_S_endOfName 3 (some .int) :: WB
abbrev w_S_widthOfCharacter : List Cond := .code y_S_widthOfCharacter b_S_widthOfCharacter 4 (some .int) :: WB
abbrev w_S_worthOfEscape : List Cond := .code y_S_worthOfEscape b_S_worthOfEscape 1 (some .int) :: WB
abbrev w_S_endOfCharacters : List Cond := .code y_S_endOfCharacters b_S_endOfCharacters 6 (some .int) :: WB
abbrev w_S_widthOfSign : List Cond := .code y_S_widthOfSign b_S_widthOfSign 3 (some .int) :: WB
abbrev w_S_baseOfNumber : List Cond := .code y_S_baseOfNumber b_S_baseOfNumber 3 (some .int) :: WB
abbrev w_S_digit : List Cond := .code y_S_digit b_S_digit 3 (some .int) :: WB
abbrev w_S_hasRoom : List Cond := .code y_S_hasRoom b_S_hasRoom 6 (some .boolean) :: WB
abbrev w_N_init : List Cond := .code y_N_init b_N_init 6 none :: WB
abbrev w_K_init : List Cond := .code y_K_init b_K_init 1 none :: WB
abbrev w_K_find : List Cond := .code y_K_find b_K_find 6 (some (.object "ExpressionReader$Name")) :: WB
abbrev w_K_learn : List Cond := .code y_K_learn b_K_learn 7 (some .boolean) :: WB
abbrev w_K_placeFor : List Cond := .code y_K_placeFor b_K_placeFor 5 (some .int) :: WB
abbrev w_K_add : List Cond := .code y_K_add b_K_add 2 (some .boolean) :: WB
abbrev w_X_init : List Cond := .code y_X_init b_X_init 1 none :: WB
abbrev w_X_findFault : List Cond := .code y_X_findFault b_X_findFault 5 (some .int) :: WB
abbrev w_X_constantFound : List Cond := .code y_X_constantFound b_X_constantFound 1 (some .long) :: WB
abbrev w_X_placeFound : List Cond := .code y_X_placeFound b_X_placeFound 1 (some .int) :: WB
abbrev w_X_takenOffFound : List Cond := .code y_X_takenOffFound b_X_takenOffFound 1 (some .int) :: WB
abbrev w_X_lookUpNames : List Cond := .code y_X_lookUpNames b_X_lookUpNames 5 none :: WB
abbrev w_X_meaningOf : List Cond := .code y_X_meaningOf b_X_meaningOf 2 (some (.object "ExpressionReader$Name")) :: WB
abbrev w_X_isExpression : List Cond := .code y_X_isExpression b_X_isExpression 8 (some .boolean) :: WB
abbrev w_X_isOperand : List Cond := .code y_X_isOperand b_X_isOperand 5 (some .boolean) :: WB
abbrev w_X_isPrefix : List Cond := .code y_X_isPrefix b_X_isPrefix 1 (some .boolean) :: WB
abbrev w_X_areNamesKnown : List Cond := .code y_X_areNamesKnown b_X_areNamesKnown 3 (some .boolean) :: WB
abbrev w_X_rankOf : List Cond := .code y_X_rankOf b_X_rankOf 1 (some .int) :: WB
abbrev w_X_workOut : List Cond := .code y_X_workOut b_X_workOut 5 none :: WB
abbrev w_X_pushOperand : List Cond := .code y_X_pushOperand b_X_pushOperand 4 none :: WB
abbrev w_X_letWait : List Cond := .code y_X_letWait b_X_letWait 2 none :: WB
abbrev w_X_dropBracket : List Cond := .code y_X_dropBracket b_X_dropBracket 1 none :: WB
abbrev w_X_applyWaiting : List Cond := .code y_X_applyWaiting b_X_applyWaiting 4 none :: WB
abbrev w_V_init : List Cond := .code y_V_init b_V_init 1 none :: WB
abbrev w_V_clear : List Cond := .code y_V_clear b_V_clear 1 none :: WB
abbrev w_V_areOdd : List Cond := .code y_V_areOdd b_V_areOdd 1 (some .boolean) :: WB
abbrev w_V_constantOfFirst : List Cond := .code y_V_constantOfFirst b_V_constantOfFirst 1 (some .long) :: WB
abbrev w_V_placeOfFirst : List Cond := .code y_V_placeOfFirst b_V_placeOfFirst 1 (some .int) :: WB
abbrev w_V_takenOffOfFirst : List Cond := .code y_V_takenOffOfFirst b_V_takenOffOfFirst 1 (some .int) :: WB
abbrev w_V_push : List Cond := .code y_V_push b_V_push 4 none :: WB
abbrev w_V_applyInFront : List Cond := .code y_V_applyInFront b_V_applyInFront 3 none :: WB
abbrev w_V_applyBetween : List Cond := .code y_V_applyBetween b_V_applyBetween 4 none :: WB
abbrev w_V_isConstant : List Cond := .code y_V_isConstant b_V_isConstant 2 (some .boolean) :: WB
abbrev w_V_isPlace : List Cond := .code y_V_isPlace b_V_isPlace 2 (some .boolean) :: WB
abbrev w_V_add : List Cond := .code y_V_add b_V_add 3 none :: WB
abbrev w_V_takeOff : List Cond := .code y_V_takeOff b_V_takeOff 3 none :: WB
abbrev w_V_combine : List Cond := .code y_V_combine b_V_combine 6 (some .long) :: WB
abbrev w_V_divide : List Cond := .code y_V_divide b_V_divide 6 (some .long) :: WB
abbrev w_M_init : List Cond := .code y_M_init b_M_init 1 none :: WB
abbrev w_M_thrown : List Cond := .code y_M_thrown b_M_thrown 1 (some .int) :: WB
abbrev w_M_type : List Cond := .code y_M_type b_M_type 5 (some .boolean) :: WB
abbrev w_M_isLetter : List Cond := .code y_M_isLetter b_M_isLetter 1 (some .boolean) :: WB
abbrev w_M_isDigit : List Cond := .code y_M_isDigit b_M_isDigit 1 (some .boolean) :: WB
abbrev w_M_isPart : List Cond := .code y_M_isPart b_M_isPart 2 (some .boolean) :: WB
abbrev w_M_digit : List Cond := .code y_M_digit b_M_digit 1 (some .int) :: WB
abbrev w_M_add : List Cond := .code y_M_add b_M_add 6 none :: WB
abbrev w_M_isPlain : List Cond := .code y_M_isPlain b_M_isPlain 2 (some .boolean) :: WB
abbrev w_M_character : List Cond := .code y_M_character b_M_character 4 (some .int) :: WB
abbrev w_M_number : List Cond := .code y_M_number b_M_number 9 (some .int) :: WB
abbrev w_M_isSign : List Cond := .code y_M_isSign b_M_isSign 1 (some .boolean) :: WB
abbrev w_M_next : List Cond := .code y_M_next b_M_next 4 (some .int) :: WB
abbrev w_M_cut : List Cond := .code y_M_cut b_M_cut 2 (some .boolean) :: WB
abbrev w_M_isNamed : List Cond := .code y_M_isNamed b_M_isNamed 5 (some .boolean) :: WB
abbrev w_M_find : List Cond := .code y_M_find b_M_find 3 (some .int) :: WB
abbrev w_M_enter : List Cond := .code y_M_enter b_M_enter 6 none :: WB
abbrev w_M_isOneName : List Cond := .code y_M_isOneName b_M_isOneName 1 (some .boolean) :: WB
abbrev w_M_done : List Cond := .code y_M_done b_M_done 2 (some .boolean) :: WB
abbrev w_M_bar : List Cond := .code y_M_bar b_M_bar 1 (some .boolean) :: WB
abbrev w_M_place : List Cond := .code y_M_place b_M_place 3 (some .int) :: WB
abbrev w_M_constant : List Cond := .code y_M_constant b_M_constant 3 (some .boolean) :: WB
abbrev w_M_strength : List Cond := .code y_M_strength b_M_strength 1 (some .int) :: WB
abbrev w_M_put : List Cond := .code y_M_put b_M_put 6 none :: WB
abbrev w_M_isExpression : List Cond := .code y_M_isExpression b_M_isExpression 8 (some .boolean) :: WB
abbrev w_M_isConstant : List Cond := .code y_M_isConstant b_M_isConstant 2 (some .boolean) :: WB
abbrev w_M_remove : List Cond := .code y_M_remove b_M_remove 4 none :: WB
abbrev w_M_front : List Cond := .code y_M_front b_M_front 3 none :: WB
abbrev w_M_join : List Cond := .code y_M_join b_M_join 12 none :: WB
abbrev w_M_reduce : List Cond := .code y_M_reduce b_M_reduce 6 none :: WB
abbrev w_M_work : List Cond := .code y_M_work b_M_work 3 none :: WB
abbrev w_M_isKnown : List Cond := .code y_M_isKnown b_M_isKnown 3 (some .boolean) :: WB
abbrev w_M_read : List Cond := .code y_M_read b_M_read 3 (some .int) :: WB
abbrev w_M_fault : List Cond := .code y_M_fault b_M_fault 1 (some .int) :: WB
abbrev w_M_value : List Cond := .code y_M_value b_M_value 1 (some .long) :: WB
abbrev w_M_side : List Cond := .code y_M_side b_M_side 2 (some .int) :: WB
abbrev w_M_token : List Cond := .code y_M_token b_M_token 3 (some .int) :: WB
theorem i_R : ∀ w ∈ u_ws R_R F_R 8, w ∈ WB := List.forall_mem_cons.mpr ⟨wbm (i := 191) (by decide +kernel) rfl, List.forall_mem_cons.mpr ⟨wbm (i := 193) (by decide +kernel) rfl, List.forall_mem_cons.mpr ⟨wbm (i := 195) (by decide +kernel) rfl, List.forall_mem_cons.mpr ⟨wbm (i := 197) (by decide +kernel) rfl, List.forall_mem_cons.mpr ⟨wbm (i := 199) (by decide +kernel) rfl, List.forall_mem_cons.mpr ⟨wbm (i := 201) (by decide +kernel) rfl, List.forall_mem_cons.mpr ⟨wbm (i := 203) (by decide +kernel) rfl, List.forall_mem_cons.mpr ⟨wbm (i := 205) (by decide +kernel) rfl, fun _ h => absurd h List.not_mem_nil⟩⟩⟩⟩⟩⟩⟩⟩
theorem i_L : ∀ w ∈ u_ws R_L F_L 2, w ∈ WB := List.forall_mem_cons.mpr ⟨wbm (i := 90) (by decide +kernel) rfl, List.forall_mem_cons.mpr ⟨wbm (i := 92) (by decide +kernel) rfl, fun _ h => absurd h List.not_mem_nil⟩⟩
theorem i_T : ∀ w ∈ u_ws R_T F_T 6, w ∈ WB := List.forall_mem_cons.mpr ⟨wbm (i := 108) (by decide +kernel) rfl, List.forall_mem_cons.mpr ⟨wbm (i := 110) (by decide +kernel) rfl, List.forall_mem_cons.mpr ⟨wbm (i := 112) (by decide +kernel) rfl, List.forall_mem_cons.mpr ⟨wbm (i := 114) (by decide +kernel) rfl, List.forall_mem_cons.mpr ⟨wbm (i := 116) (by decide +kernel) rfl, List.forall_mem_cons.mpr ⟨wbm (i := 118) (by decide +kernel) rfl, fun _ h => absurd h List.not_mem_nil⟩⟩⟩⟩⟩⟩
theorem i_N : ∀ w ∈ u_ws R_N F_N 4, w ∈ WB := List.forall_mem_cons.mpr ⟨wbm (i := 659) (by decide +kernel) rfl, List.forall_mem_cons.mpr ⟨wbm (i := 661) (by decide +kernel) rfl, List.forall_mem_cons.mpr ⟨wbm (i := 663) (by decide +kernel) rfl, List.forall_mem_cons.mpr ⟨wbm (i := 665) (by decide +kernel) rfl, fun _ h => absurd h List.not_mem_nil⟩⟩⟩⟩
theorem i_K : ∀ w ∈ u_ws R_K F_K 3, w ∈ WB := List.forall_mem_cons.mpr ⟨wbm (i := 134) (by decide +kernel) rfl, List.forall_mem_cons.mpr ⟨wbm (i := 136) (by decide +kernel) rfl, List.forall_mem_cons.mpr ⟨wbm (i := 138) (by decide +kernel) rfl, fun _ h => absurd h List.not_mem_nil⟩⟩⟩
theorem i_X : ∀ w ∈ u_ws R_X F_X 4, w ∈ WB := List.forall_mem_cons.mpr ⟨wbm (i := 174) (by decide +kernel) rfl, List.forall_mem_cons.mpr ⟨wbm (i := 176) (by decide +kernel) rfl, List.forall_mem_cons.mpr ⟨wbm (i := 178) (by decide +kernel) rfl, List.forall_mem_cons.mpr ⟨wbm (i := 180) (by decide +kernel) rfl, fun _ h => absurd h List.not_mem_nil⟩⟩⟩⟩
theorem i_V : ∀ w ∈ u_ws R_V F_V 5, w ∈ WB := List.forall_mem_cons.mpr ⟨wbm (i := 159) (by decide +kernel) rfl, List.forall_mem_cons.mpr ⟨wbm (i := 161) (by decide +kernel) rfl, List.forall_mem_cons.mpr ⟨wbm (i := 163) (by decide +kernel) rfl, List.forall_mem_cons.mpr ⟨wbm (i := 165) (by decide +kernel) rfl, List.forall_mem_cons.mpr ⟨wbm (i := 167) (by decide +kernel) rfl, fun _ h => absurd h List.not_mem_nil⟩⟩⟩⟩⟩
theorem i_M : ∀ w ∈ u_ws R_M F_M 27, w ∈ WB := List.forall_mem_cons.mpr ⟨wbm (i := 900) (by decide +kernel) rfl, List.forall_mem_cons.mpr ⟨wbm (i := 902) (by decide +kernel) rfl, List.forall_mem_cons.mpr ⟨wbm (i := 904) (by decide +kernel) rfl, List.forall_mem_cons.mpr ⟨wbm (i := 906) (by decide +kernel) rfl, List.forall_mem_cons.mpr ⟨wbm (i := 908) (by decide +kernel) rfl, List.forall_mem_cons.mpr ⟨wbm (i := 910) (by decide +kernel) rfl, List.forall_mem_cons.mpr ⟨wbm (i := 912) (by decide +kernel) rfl, List.forall_mem_cons.mpr ⟨wbm (i := 914) (by decide +kernel) rfl, List.forall_mem_cons.mpr ⟨wbm (i := 916) (by decide +kernel) rfl, List.forall_mem_cons.mpr ⟨wbm (i := 918) (by decide +kernel) rfl, List.forall_mem_cons.mpr ⟨wbm (i := 920) (by decide +kernel) rfl, List.forall_mem_cons.mpr ⟨wbm (i := 922) (by decide +kernel) rfl, List.forall_mem_cons.mpr ⟨wbm (i := 924) (by decide +kernel) rfl, List.forall_mem_cons.mpr ⟨wbm (i := 926) (by decide +kernel) rfl, List.forall_mem_cons.mpr ⟨wbm (i := 928) (by decide +kernel) rfl, List.forall_mem_cons.mpr ⟨wbm (i := 930) (by decide +kernel) rfl, List.forall_mem_cons.mpr ⟨wbm (i := 932) (by decide +kernel) rfl, List.forall_mem_cons.mpr ⟨wbm (i := 934) (by decide +kernel) rfl, List.forall_mem_cons.mpr ⟨wbm (i := 936) (by decide +kernel) rfl, List.forall_mem_cons.mpr ⟨wbm (i := 938) (by decide +kernel) rfl, List.forall_mem_cons.mpr ⟨wbm (i := 940) (by decide +kernel) rfl, List.forall_mem_cons.mpr ⟨wbm (i := 942) (by decide +kernel) rfl, List.forall_mem_cons.mpr ⟨wbm (i := 944) (by decide +kernel) rfl, List.forall_mem_cons.mpr ⟨wbm (i := 946) (by decide +kernel) rfl, List.forall_mem_cons.mpr ⟨wbm (i := 948) (by decide +kernel) rfl, List.forall_mem_cons.mpr ⟨wbm (i := 950) (by decide +kernel) rfl, List.forall_mem_cons.mpr ⟨wbm (i := 952) (by decide +kernel) rfl, fun _ h => absurd h List.not_mem_nil⟩⟩⟩⟩⟩⟩⟩⟩⟩⟩⟩⟩⟩⟩⟩⟩⟩⟩⟩⟩⟩⟩⟩⟩⟩⟩⟩
