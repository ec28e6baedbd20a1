/-! The reference: remove, front, join on lists of items -/
def shf {α : Type} (k i n : Nat) (f : Nat → α) : Nat → α := fun j => if k ≤ j ∧ j < i then f (j + n) else f j
theorem shf_0 {α : Type} (k n : Nat) (f : Nat → α) : shf k k n f = f := by
  funext j
  unfold shf
  rw [if_neg (by omega)]
theorem shf_u (k i n : Nat) (hk : k ≤ i) (f : Nat → Int32) : upd (shf k i n f) i (shf k i n f (i + n)) = shf k (i + 1) n f := by
  funext j
  unfold upd shf
  by_cases c : j = i
  · rw [if_pos c, if_neg (by omega), if_pos (by omega), c]
  · rw [if_neg c]
    by_cases d : k ≤ j ∧ j < i
    · rw [if_pos d, if_pos (by omega)]
    · rw [if_neg d, if_neg (by omega)]
theorem shf_uL (k i n : Nat) (hk : k ≤ i) (f : Nat → Int64) : vp_updL (shf k i n f) i (shf k i n f (i + n)) = shf k (i + 1) n f := by
  funext j
  unfold vp_updL shf
  by_cases c : j = i
  · rw [if_pos c, if_neg (by omega), if_pos (by omega), c]
  · rw [if_neg c]
    by_cases d : k ≤ j ∧ j < i
    · rw [if_pos d, if_pos (by omega)]
    · rw [if_neg d, if_neg (by omega)]
theorem M_remove_l {T k n : Nat} (hT : T ≤ 1100) (si pu mi : Nat → Int32) (va : Nat → Int64) : ∀ f i, k ≤ i → i + n ≤ T → T - n - i < f → f_M_remove_l2 f (nI T) (shf k i n si) (shf k i n pu) (shf k i n mi) (shf k i n va) (nI n) (nI i) = some (nI (T - n), shf k (T - n) n si, shf k (T - n) n pu, shf k (T - n) n mi, shf k (T - n) n va) := by
  intro f
  induction f with
  | zero => intro i h1 h2 h3; omega
  | succ f ih =>
    intro i h1 h2 h3
    unfold f_M_remove_l2
    rw [nI_add]
    by_cases c : i + n < T
    · have g1 : ∀ (α : Type) (x : Option α), gi (nI (i + n)) 1100 x = x := fun α x => gi_nI (by omega) (by decide)
      have g2 : ∀ (α : Type) (x : Option α), gi (nI i) 1100 x = x := fun α x => gi_nI (by omega) (by decide)
      rw [if_neg (nI_ge c (by omega))]
      simp only [g1, g2]
      rw [nI_clamp (show i < 2 ^ 31 by omega), nI_clamp (show i + n < 2 ^ 31 by omega), shf_u k i n h1, shf_u k i n h1, shf_u k i n h1, shf_uL k i n h1, nI_1]
      exact ih (i + 1) (by omega) (by omega) (by omega)
    · rw [if_pos (nI_le (by omega) (by omega)), pk_sub (by omega), show T - n = i by omega]
theorem M_remove {L : List RI} {mma : Int32} {si pu mi : Nat → Int32} {va : Nat → Int64} (h : AR L mma si pu mi va) (hl : L.length ≤ 1100) {k n : Nat} (hk : k + n ≤ L.length) :
    ∃ mma' si' pu' mi' va', f_M_remove mma si pu mi va (nI k) (nI n) = some (mma', si', pu', mi', va') ∧ AR (L.take k ++ L.drop (k + n)) mma' si' pu' mi' va' := by
  unfold f_M_remove
  have := M_remove_l hl (k := k) (n := n) si pu mi va FU k (by omega) hk (by unfold FU; omega)
  rw [shf_0, shf_0, shf_0, shf_0] at this
  rw [h.1, this]
  refine ⟨_, _, _, _, _, rfl, by rw [List.length_append, List.length_take, List.length_drop, Nat.min_eq_left (by omega)]; congr 1; omega, fun j x hj => ?_⟩
  have hlt := (List.getElem?_eq_some_iff.mp hj).1
  rw [List.length_append, List.length_take, List.length_drop, Nat.min_eq_left (by omega)] at hlt
  by_cases c : j < k
  · rw [List.getElem?_append_left (by rw [List.length_take]; omega), List.getElem?_take_of_lt c] at hj
    unfold shf
    rw [if_neg (by omega), if_neg (by omega), if_neg (by omega), if_neg (by omega)]
    exact h.2 j x hj
  · rw [List.getElem?_append_right (by rw [List.length_take]; omega), List.getElem?_drop, List.length_take, Nat.min_eq_left (by omega), show k + n + (j - k) = j + n by omega] at hj
    unfold shf
    rw [if_pos (by omega), if_pos (by omega), if_pos (by omega), if_pos (by omega)]
    exact h.2 (j + n) x hj
theorem mid_at {α : Type} (A C : List α) (x : α) : (A ++ x :: C)[A.length]? = some x := by
  rw [List.getElem?_append_right (Nat.le_refl _), Nat.sub_self]; rfl
theorem mid_ne {α : Type} (A C : List α) (x y : α) {j : Nat} (h : j ≠ A.length) : (A ++ x :: C)[j]? = (A ++ y :: C)[j]? := by
  rcases Nat.lt_or_gt_of_ne h with c | c
  · rw [List.getElem?_append_left c, List.getElem?_append_left c]
  · rw [List.getElem?_append_right (by omega), List.getElem?_append_right (by omega), show j - A.length = (j - A.length - 1) + 1 by omega]; rfl
theorem AR_upd {A C : List RI} {c : Nat} {v v' : Vl} {mma : Int32} {si pu mi pu' mi' : Nat → Int32} {va va' : Nat → Int64} (h : AR (A ++ (c, v) :: C) mma si pu mi va) (hf : ∀ j, j ≠ A.length → va' j = va j ∧ pu' j = pu j ∧ mi' j = mi j) (hv : ∀ z, v' = some z → va' A.length = z.1 ∧ pu' A.length = z.2.1 ∧ mi' A.length = z.2.2) : AR (A ++ (c, v') :: C) mma si pu' mi' va' := by
  refine ⟨by rw [h.1, List.length_append, List.length_append, List.length_cons, List.length_cons], fun j x hj => ?_⟩
  by_cases d : j = A.length
  · rw [d, mid_at] at hj
    rw [d, ← Option.some.inj hj]
    exact ⟨(h.2 A.length (c, v) (mid_at A C _)).1, hv⟩
  · obtain ⟨f1, f2, f3⟩ := hf j d
    rw [f1, f2, f3]
    rw [mid_ne A C _ (c, v) d] at hj
    exact h.2 j x hj
def odr (L : List RI) : Bool := L.any (fun x => x.2.isNone)
theorem odr_app (A C : List RI) : odr (A ++ C) = (odr A || odr C) := List.any_append
theorem odr_cons (x : RI) (C : List RI) : odr (x :: C) = (x.2.isNone || odr C) := rfl
/-- values whose span has a place -/
def GV (v : Vl) : Prop := ∀ x, v = some x → x.2.1 = -1 → x.2.2 = -1
theorem GV_frt {c : Nat} {v : Vl} (h : GV v) : GV (frt c v) := by
  intro x hx hp
  cases v with
  | none => cases hx
  | some y =>
    have hx : (if c = 43 then some y else if y.2.1 = -1 then some _ else none) = some x := hx
    by_cases d : c = 43
    · rw [if_pos d] at hx; exact h x hx hp
    · rw [if_neg d] at hx
      by_cases e : y.2.1 = -1
      · rw [if_pos e] at hx
        rw [← Option.some.inj hx]
        exact h y rfl e
      · rw [if_neg e] at hx; cases hx
theorem GV_jn {c : Nat} {a b : Vl} (ha : GV a) (hb : GV b) : GV (jn c a b) := by
  intro z hz hp
  cases a with
  | none => cases hz
  | some x =>
    cases b with
    | none => cases hz
    | some y =>
      unfold jn at hz
      rw [Option.bind_some, Option.bind_some] at hz
      by_cases c43 : c = 43
      · rw [if_pos c43] at hz
        by_cases p : x.2.1 = -1
        · rw [if_pos p] at hz
          rw [← Option.some.inj hz] at hp ⊢
          exact hb y rfl hp
        · rw [if_neg p] at hz
          by_cases q : y.2.1 = -1
          · rw [if_pos q] at hz
            rw [← Option.some.inj hz] at hp
            exact absurd hp p
          · rw [if_neg q] at hz; cases hz
      · rw [if_neg c43] at hz
        by_cases c45 : c = 45
        · rw [if_pos c45] at hz
          by_cases q : y.2.1 = -1
          · rw [if_pos q] at hz
            rw [← Option.some.inj hz] at hp ⊢
            exact ha x rfl hp
          · rw [if_neg q] at hz
            by_cases p : x.2.1 ≠ -1 ∧ x.2.2 = -1 ∧ y.2.2 = -1
            · rw [if_pos p] at hz
              rw [← Option.some.inj hz] at hp
              exact absurd hp p.1
            · rw [if_neg p] at hz; cases hz
        · rw [if_neg c45] at hz
          by_cases p : x.2.1 = -1 ∧ y.2.1 = -1
          · rw [if_pos p] at hz
            cases hw : comb c x.1 y.1 with
            | none => rw [hw] at hz; cases hz
            | some w =>
              rw [hw] at hz
              rw [← Option.some.inj hz]
              exact ha x rfl p.1
          · rw [if_neg p] at hz; cases hz
theorem M_isConst {pu mi : Nat → Int32} {k : Nat} (hk : k < 1100) : f_M_isConstant pu mi (nI k) = some (if pu k = -1 ∧ mi k = -1 then 1 else 0) := by
  unfold f_M_isConstant
  rw [gi_nI hk (by decide), gi_nI hk (by decide), nI_clamp (by omega)]
  by_cases p : pu k = -1
  · by_cases q : mi k = -1
    · rw [if_pos p, if_pos q, if_pos ⟨p, q⟩]
    · rw [if_pos p, if_neg q, if_neg (fun z => q z.2)]
  · rw [if_neg p, if_neg (fun z => p z.1)]
theorem take_mid {α : Type} (A C : List α) : (A ++ C).take A.length = A := List.take_left
theorem drop_mid {α : Type} (A C : List α) : (A ++ C).drop A.length = C := List.drop_left
theorem gz_b (b : Bool) {α : Type} (k : Option α) : gz (b01 b) k = k := by cases b <;> rfl
theorem frt_some (c : Nat) (x : Int64 × Int32 × Int32) : frt c (some x) = if c = 43 then some x else if x.2.1 = -1 then some (if c = 45 then -x.1 else x.1 ^^^ (-1), x.2.1, x.2.2) else none := rfl
theorem cM_pre {w : Nat} (h : 1000 < w) (hp : pfx (w - 1000) = true) : cM w - 1000 = nI (w - 1000) := by
  have := pfx_c hp
  rcases (show w = 1045 ∨ w = 1126 ∨ w = 1043 by omega) with z | z | z <;> rw [z] <;> decide
theorem M_front {A C : List RI} {w : Nat} {z v : Vl} {mma mod : Int32} {si pu mi : Nat → Int32} {va : Nat → Int64} (h : AR (A ++ (w, z) :: (0, v) :: C) mma si pu mi va) (hz : z = sgv) (hw : 1000 < w) (hp : pfx (w - 1000) = true) (hl : A.length + 2 + C.length ≤ 1024) (hG : GV v) (ho : mod = b01 (odr (A ++ (w, z) :: (0, v) :: C))) :
    ∃ mma' mod' si' pu' mi' va', f_M_front mma mod si pu mi va (nI A.length) = some (mma', mod', si', pu', mi', va') ∧ AR (A ++ (0, frt (w - 1000) v) :: C) mma' si' pu' mi' va' ∧ mod' = b01 (odr (A ++ (0, frt (w - 1000) v) :: C)) := by
  have hlen : (A ++ (w, z) :: (0, v) :: C).length = A.length + 2 + C.length := by rw [List.length_append, List.length_cons, List.length_cons]; omega
  obtain ⟨s1, -⟩ := h.2 A.length (w, z) (mid_at A _ _)
  have e1 : (A ++ [(w, z)]) ++ (0, v) :: C = A ++ (w, z) :: (0, v) :: C := by rw [List.append_assoc]; rfl
  have l1 : (A ++ [(w, z)]).length = A.length + 1 := by rw [List.length_append]; rfl
  have h2 : (A ++ (w, z) :: (0, v) :: C)[A.length + 1]? = some (0, v) := by
    rw [← e1, ← l1]; exact mid_at _ _ _
  obtain ⟨-, s2⟩ := h.2 (A.length + 1) (0, v) h2
  -- what the reference does when the value at A.length + 1 becomes y
  have fin1 : ∀ (y : Int64) (u : Vl), (∀ x, u = some x → y = x.1 ∧ pu (A.length + 1) = x.2.1 ∧ mi (A.length + 1) = x.2.2) → ∃ mma' si' pu' mi' va', f_M_remove mma si pu mi (vp_updL va (A.length + 1) y) (nI A.length) (nI 1) = some (mma', si', pu', mi', va') ∧ AR (A ++ (0, u) :: C) mma' si' pu' mi' va' := by
    intro y u hu
    have hA : AR ((A ++ [(w, z)]) ++ (0, u) :: C) mma si pu mi (vp_updL va (A.length + 1) y) := by
      refine AR_upd (v := v) (by rw [e1]; exact h) (fun j hj => ⟨updL_ne _ _ (by rw [l1] at hj; exact hj), rfl, rfl⟩) (fun x hx => ?_)
      rw [l1, updL_at]
      exact hu x hx
    obtain ⟨m1, m2, m3, m4, m5, r1, r2⟩ := M_remove hA (by rw [List.length_append, l1, List.length_cons]; omega) (k := A.length) (n := 1) (by rw [List.length_append, l1, List.length_cons]; omega)
    refine ⟨m1, m2, m3, m4, m5, r1, ?_⟩
    have t1 : ((A ++ [(w, z)]) ++ (0, u) :: C).take A.length = A := by rw [List.append_assoc]; exact take_mid _ _
    have t2 : ((A ++ [(w, z)]) ++ (0, u) :: C).drop (A.length + 1) = (0, u) :: C := by rw [← l1]; exact drop_mid _ _
    rw [t1, t2] at r2
    exact r2
  have j40 : ∀ (y0 : Bool), (frt (w - 1000) v = none → y0 = true) → (y0 = true → odr (A ++ (0, frt (w - 1000) v) :: C) = true) → (y0 = false → odr (A ++ (0, frt (w - 1000) v) :: C) = false) → ∃ mma' mod' si' pu' mi' va', f_M_front_j40 mma mod si pu mi va (nI A.length) (nI (w - 1000)) (b01 y0) = some (mma', mod', si', pu', mi', va') ∧ AR (A ++ (0, frt (w - 1000) v) :: C) mma' si' pu' mi' va' ∧ mod' = b01 (odr (A ++ (0, frt (w - 1000) v) :: C)) := by
    intro y0 h1 h2 h3
    have hy : b01 y0 = b01 (odr (A ++ (0, frt (w - 1000) v) :: C)) := by
      cases y0 with
      | true => rw [h2 rfl]
      | false => rw [h3 rfl]
    unfold f_M_front_j40
    have g1 : ∀ (α : Type) (x : Option α), gi (nI (A.length + 1)) 1100 x = x := fun α x => gi_nI (by omega) (by decide)
    rw [gz_b, nI_1]
    simp only [g1]
    rw [nI_clamp (by omega)]
    have hcell : ∀ y : Int64, (∀ x x', v = some x → frt (w - 1000) v = some x' → y = x'.1) → (∀ x, frt (w - 1000) v = some x → y = x.1 ∧ pu (A.length + 1) = x.2.1 ∧ mi (A.length + 1) = x.2.2) := by
      intro y hy x hx
      cases v with
      | none => cases hx
      | some x0 =>
        refine ⟨hy x0 x rfl hx, ?_⟩
        obtain ⟨k1, k2, k3⟩ := s2 x0 rfl
        rw [frt_some] at hx
        by_cases d : w - 1000 = 43
        · rw [if_pos d] at hx; rw [← Option.some.inj hx]; exact ⟨k2, k3⟩
        · rw [if_neg d] at hx
          by_cases e : x0.2.1 = -1
          · rw [if_pos e] at hx; rw [← Option.some.inj hx]; exact ⟨k2, k3⟩
          · rw [if_neg e] at hx; cases hx
    have val : ∀ x x' : Int64 × Int32 × Int32, v = some x → frt (w - 1000) v = some x' → x'.1 = (if w - 1000 = 43 then x.1 else if w - 1000 = 45 then -x.1 else x.1 ^^^ (-1)) ∧ va (A.length + 1) = x.1 := by
      intro x x' hx hx'
      refine ⟨?_, (s2 x hx).1⟩
      rw [hx] at hx'
      rw [frt_some] at hx'
      by_cases d : w - 1000 = 43
      · rw [if_pos d] at hx' ⊢; rw [← Option.some.inj hx']
      · rw [if_neg d] at hx' ⊢
        by_cases e : x.2.1 = -1
        · rw [if_pos e] at hx'; rw [← Option.some.inj hx']
        · rw [if_neg e] at hx'; cases hx'
    have e45 : nI (w - 1000) = (45 : Int32) ↔ w - 1000 = 45 := nI_eq (b := 45) (by have := pfx_c hp; omega) (by decide)
    have e126 : nI (w - 1000) = (126 : Int32) ↔ w - 1000 = 126 := nI_eq (b := 126) (by have := pfx_c hp; omega) (by decide)
    by_cases d45 : w - 1000 = 45
    · rw [if_pos (e45.mpr d45)]
      obtain ⟨m1, m2, m3, m4, m5, r1, r2⟩ := fin1 (-(va (A.length + 1))) _ (hcell _ (fun x x' a b => by rw [(val x x' a b).1, (val x x' a b).2, if_neg (by omega), if_pos d45]))
      rw [show (1 : Int32) = nI 1 from rfl, r1, Option.bind_some]
      exact ⟨_, _, _, _, _, _, rfl, r2, hy⟩
    · rw [if_neg (fun z => d45 (e45.mp z))]
      by_cases d126 : w - 1000 = 126
      · rw [if_pos (e126.mpr d126)]
        obtain ⟨m1, m2, m3, m4, m5, r1, r2⟩ := fin1 (va (A.length + 1) ^^^ (-1)) _ (hcell _ (fun x x' a b => by rw [(val x x' a b).1, (val x x' a b).2, if_neg (by omega), if_neg d45]))
        rw [show (1 : Int32) = nI 1 from rfl, r1, Option.bind_some]
        exact ⟨_, _, _, _, _, _, rfl, r2, hy⟩
      · rw [if_neg (fun z => d126 (e126.mp z))]
        have d43 : w - 1000 = 43 := by have := pfx_c hp; omega
        obtain ⟨m1, m2, m3, m4, m5, r1, r2⟩ := fin1 (va (A.length + 1)) _ (hcell _ (fun x x' a b => by rw [(val x x' a b).1, (val x x' a b).2, if_pos d43]))
        rw [show (1 : Int32) = nI 1 from rfl, r1, Option.bind_some]
        exact ⟨_, _, _, _, _, _, rfl, r2, hy⟩
  have od0 : odr (A ++ (w, z) :: (0, v) :: C) = (odr A || (v.isNone || odr C)) := by rw [odr_app, odr_cons, odr_cons, hz]; rfl
  have od1 : ∀ u : Vl, odr (A ++ (0, u) :: C) = (odr A || (u.isNone || odr C)) := fun u => by rw [odr_app, odr_cons]
  unfold f_M_front f_M_front_j35 f_M_front_j39
  rw [gi_nI (by omega) (by decide), nI_clamp (by omega), s1, cM_pre hw hp, nI_1, M_isConst (by omega), Option.bind_some, ho, od0]
  rw [ho, od0] at j40
  have e43 : nI (w - 1000) = (43 : Int32) ↔ w - 1000 = 43 := nI_eq (b := 43) (by have := pfx_c hp; omega) (by decide)
  cases hodd : (odr A || (v.isNone || odr C)) with
  | true =>
    rw [hodd] at j40
    rw [if_neg (show ¬ b01 true = 0 by decide)]
    refine j40 true (fun _ => rfl) (fun _ => ?_) (fun z => nomatch z)
    rw [od1]
    cases v with
    | none => exact hodd
    | some x =>
      have hodd : (odr A || odr C) = true := hodd
      rcases Bool.or_eq_true _ _ |>.mp hodd with q | q
      · rw [q]; rfl
      · rw [q, Bool.or_true, Bool.or_true]
  | false =>
    rw [hodd] at j40
    rw [if_pos (show b01 false = 0 from rfl)]
    have hvs : ∃ x, v = some x := by
      cases v with
      | none => rw [show (none : Vl).isNone = true from rfl, Bool.true_or, Bool.or_true] at hodd; cases hodd
      | some x => exact ⟨x, rfl⟩
    obtain ⟨x, hx⟩ := hvs
    have hAC : (odr A || odr C) = false := by rw [hx] at hodd; exact hodd
    have hs : ∀ u : Int64 × Int32 × Int32, frt (w - 1000) v = some u → odr (A ++ (0, frt (w - 1000) v) :: C) = false := fun u hu => by rw [od1, hu]; exact hAC
    obtain ⟨k1, k2, k3⟩ := s2 x hx
    by_cases d43 : w - 1000 = 43
    · rw [if_pos (e43.mpr d43)]
      have : frt (w - 1000) v = some x := by rw [d43, frt_43, hx]
      exact j40 false (fun q => by rw [this] at q; cases q) (fun q => nomatch q) (fun _ => hs x this)
    · rw [if_neg (fun q => d43 (e43.mp q)), k2, k3]
      by_cases p : x.2.1 = -1
      · rw [if_pos (show x.2.1 = -1 ∧ x.2.2 = -1 from ⟨p, hG x hx p⟩), if_neg (show ¬ (1 : Int32) = 0 by decide)]
        have : frt (w - 1000) v = some (if w - 1000 = 45 then -x.1 else x.1 ^^^ (-1), x.2.1, x.2.2) := by
          rw [hx, frt_some]
          rw [if_neg d43, if_pos p]
        exact j40 false (fun q => by rw [this] at q; cases q) (fun q => nomatch q) (fun _ => hs _ this)
      · rw [if_neg (show ¬ (x.2.1 = -1 ∧ x.2.2 = -1) from fun q => p q.1), if_pos rfl]
        have : frt (w - 1000) v = none := by
          rw [hx, frt_some]
          rw [if_neg d43, if_neg p]
        refine j40 true (fun _ => rfl) (fun _ => ?_) (fun q => nomatch q)
        rw [od1, this, show (none : Vl).isNone = true from rfl, Bool.true_or, Bool.or_true]
