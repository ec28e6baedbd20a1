/-! The class works an expression out as SY says -/
def ods (V : List Vl) : Bool := V.any Option.isNone
def VC : List Vl → (Nat → Int64) → (Nat → Int32) → (Nat → Int32) → Prop
  | [], _, _, _ => True
  | v :: V, vc, vp, vo => (∀ x, v = some x → vc V.length = x.1 ∧ vp V.length = x.2.1 ∧ vo V.length = x.2.2) ∧ VC V vc vp vo
def FR (q : Nat) (vc vc' : Nat → Int64) (vp vp' vo vo' : Nat → Int32) : Prop := ∀ j, j < q → vc' j = vc j ∧ vp' j = vp j ∧ vo' j = vo j
theorem VC_fr {vc vc' : Nat → Int64} {vp vp' vo vo' : Nat → Int32} : ∀ (V : List Vl), FR V.length vc vc' vp vp' vo vo' → VC V vc vp vo → VC V vc' vp' vo' := by
  intro V
  induction V with
  | nil => intro _ _; trivial
  | cons v V ih =>
    intro hf h
    refine ⟨fun x hx => ?_, ih (fun j hj => hf j (by rw [List.length_cons]; omega)) h.2⟩
    obtain ⟨f1, f2, f3⟩ := hf V.length (by rw [List.length_cons]; omega)
    rw [f1, f2, f3]
    exact h.1 x hx
def VS (V : List Vl) (vn vd : Int32) (vc : Nat → Int64) (vp vo : Nat → Int32) : Prop := vn = nI V.length ∧ vd = b01 (ods V) ∧ VC V vc vp vo ∧ V.length ≤ 512
theorem V_push {V : List Vl} {vn vd : Int32} {vc : Nat → Int64} {vp vo : Nat → Int32} (h : VS V vn vd vc vp vo) (hl : V.length < 512) (x : Int64) (p : Int32) :
    ∃ vn' vc' vp' vo', f_V_push vn vc vp vo x p = some (vn', vc', vp', vo') ∧ VS (some (x, p, -1) :: V) vn' vd vc' vp' vo' := by
  obtain ⟨h1, h2, h3, h4⟩ := h
  unfold f_V_push
  rw [h1, if_neg (show ¬ (512 : Int32) ≤ nI V.length from nI_ge (b := 512) hl (by decide))]
  iterate 3 rw [gi_nI hl (by decide)]
  rw [nI_clamp (by omega), nI_1]
  refine ⟨_, _, _, _, rfl, by rw [List.length_cons], h2, ⟨fun y hy => ?_, VC_fr V (fun j hj => ?_) h3⟩, by rw [List.length_cons]; omega⟩
  · rw [← Option.some.inj hy, updL_at, upd_at, upd_at]
    exact ⟨rfl, rfl, rfl⟩
  · rw [updL_ne _ _ (by omega), upd_ne _ _ (by omega), upd_ne _ _ (by omega)]
    exact ⟨rfl, rfl, rfl⟩
theorem b01_not0 (b : Bool) : (if b01 b = 0 then (1 : Int32) else 1) = 1 := by split <;> rfl
theorem bind_id {α : Type} (v : Option α) : v.bind (fun x => some x) = v := by cases v <;> rfl
theorem frt_43 (v : Vl) : frt 43 v = v := by cases v <;> rfl
theorem V_front {V : List Vl} {vn vd : Int32} {vc : Nat → Int64} {vp vo : Nat → Int32} (h : VS V vn vd vc vp vo) {c : Nat} (hc : pfx c = true) :
    ∃ vd' vc', f_V_applyInFront vn vd vc vp (nI c) = some (vd', vc') ∧ VS (apf c V) vn vd' vc' vp vo := by
  obtain ⟨h1, h2, h3, h4⟩ := h
  have hx : c = 45 ∨ c = 126 ∨ c = 43 := by
    unfold pfx at hc
    simp at hc
    omega
  unfold f_V_applyInFront f_V_isConstant
  by_cases c43 : c = 43
  · rw [if_pos (show nI c = (43 : Int32) by rw [c43]; rfl)]
    refine ⟨_, _, rfl, ?_⟩
    have : apf c V = V := by
      cases V with
      | nil => rfl
      | cons v V => show frt c v :: V = v :: V; rw [c43, frt_43]
    rw [this]
    exact ⟨h1, h2, h3, h4⟩
  · rw [if_neg (show ¬ nI c = (43 : Int32) from nI_k (b := 43) (by omega) (by decide) c43)]
    cases V with
    | nil =>
      rw [h1, if_neg (show ¬ (0 : Int32) ≤ nI ([] : List Vl).length - 1 by decide)]
      exact ⟨_, _, rfl, rfl, h2, h3, h4⟩
    | cons v V =>
      have hl : V.length < 512 := by rw [List.length_cons] at h4; omega
      have hv : vn - 1 = nI V.length := by rw [h1, List.length_cons]; exact nI_pred _
      have gq : ∀ (α : Type) (x : Option α), gi (nI V.length) 512 x = x := fun α x => gi_nI hl (by decide)
      have cq : (nI V.length).toNatClampNeg = V.length := nI_clamp (by omega)
      rw [hv, if_pos (nI_pos' (by omega))]
      simp only [gq, cq]
      have e45 : (nI c = (45 : Int32)) ↔ c = 45 := nI_eq (b := 45) (by omega) (by decide)
      have fr : ∀ y : Int64, FR V.length vc (vp_updL vc V.length y) vp vp vo vo := fun y j hj => ⟨updL_ne _ _ (by omega), rfl, rfl⟩
      have odd1 : ods (v :: V) = (v.isNone || ods V) := rfl
      show ∃ vd' vc', _ = some (vd', vc') ∧ VS (frt c v :: V) vn vd' vc' vp vo
      by_cases p : vp V.length = -1
      · rw [if_pos p, Option.bind_some, if_neg (show ¬ (1 : Int32) = 0 by decide)]
        have main : ∀ y : Int64, (∀ x, v = some x → y = (if c = 45 then -x.1 else x.1 ^^^ (-1))) → VS (frt c v :: V) vn vd (vp_updL vc V.length y) vp vo := by
          intro y hy
          refine ⟨h1, ?_, ⟨fun x hxx => ?_, VC_fr V (fr y) h3.2⟩, h4⟩
          · rw [h2, odd1]
            cases v with
            | none => rfl
            | some x =>
              have : frt c (some x) = some (if c = 45 then -x.1 else x.1 ^^^ (-1), x.2.1, x.2.2) := by
                show (if c = 43 then some x else if x.2.1 = -1 then some _ else none) = _
                rw [if_neg c43, if_pos (by rw [← (h3.1 x rfl).2.1]; exact p)]
              rw [this]; rfl
          · cases v with
            | none => cases hxx
            | some x0 =>
              obtain ⟨k1, k2, k3⟩ := h3.1 x0 rfl
              have : frt c (some x0) = some (if c = 45 then -x0.1 else x0.1 ^^^ (-1), x0.2.1, x0.2.2) := by
                show (if c = 43 then some x0 else if x0.2.1 = -1 then some _ else none) = _
                rw [if_neg c43, if_pos (by rw [← k2]; exact p)]
              rw [this] at hxx
              rw [← Option.some.inj hxx, updL_at]
              exact ⟨hy x0 rfl, k2, k3⟩
        by_cases d : c = 45
        · rw [if_pos (e45.mpr d)]
          exact ⟨_, _, rfl, main _ (fun x hxx => by rw [if_pos d, (h3.1 x hxx).1])⟩
        · rw [if_neg (fun z => d (e45.mp z))]
          exact ⟨_, _, rfl, main _ (fun x hxx => by rw [if_neg d, (h3.1 x hxx).1])⟩
      · rw [if_neg p, Option.bind_some, if_pos rfl]
        have hn : frt c v = none := by
          cases v with
          | none => rfl
          | some x =>
            show (if c = 43 then some x else if x.2.1 = -1 then some _ else none) = _
            rw [if_neg c43, if_neg (by rw [← (h3.1 x rfl).2.1]; exact p)]
        rw [hn]
        have main : ∀ y : Int64, VS (none :: V) vn 1 (vp_updL vc V.length y) vp vo := fun y => ⟨h1, rfl, ⟨(fun x hxx => nomatch hxx), VC_fr V (fr y) h3.2⟩, h4⟩
        by_cases d : c = 45
        · rw [if_pos (e45.mpr d)]; exact ⟨_, _, rfl, main _⟩
        · rw [if_neg (fun z => d (e45.mp z))]; exact ⟨_, _, rfl, main _⟩
/-- what an operation must leave behind -/
def BS (J : Vl) (vd vd' : Int32) (c0 : Int64) (p0 o0 : Int32) : Prop := (∀ z, J = some z → vd' = vd ∧ c0 = z.1 ∧ p0 = z.2.1 ∧ o0 = z.2.2) ∧ (J = none → vd' = 1)
theorem BS.s {J : Vl} {vd vd' : Int32} {c0 : Int64} {p0 o0 : Int32} (h : J = some (c0, p0, o0)) (hd : vd' = vd) : BS J vd vd' c0 p0 o0 := ⟨fun z hz => by rw [h] at hz; rw [← Option.some.inj hz]; exact ⟨hd, rfl, rfl, rfl⟩, fun hz => by rw [h] at hz; cases hz⟩
theorem BS.n {J : Vl} {vd vd' : Int32} {c0 : Int64} {p0 o0 : Int32} (h : J = none) (hd : vd' = 1) : BS J vd vd' c0 p0 o0 := ⟨(fun z hz => absurd (h.symm.trans hz) (fun q => nomatch q)), (fun _ => hd)⟩
set_option maxRecDepth 20000 in
theorem comb_k (vd : Int32) (c : Nat) (hc : 1 ≤ rk c) (h43 : c ≠ 43) (h45 : c ≠ 45) (x y : Int64) : (∃ z, comb c x y = some z ∧ f_V_combine vd (nI c) x y = some (z, vd)) ∨ comb c x y = none ∧ f_V_combine vd (nI c) x y = some (0, 1) := by
  have hb := rk_bin hc
  have e : ∀ k : Nat, k < 256 → (nI c = nI k ↔ c = k) := fun k hk => nI_eq (by omega) (by omega)
  unfold comb f_V_combine f_V_divide
  by_cases c38 : c = 38
  · rw [if_pos c38, if_pos (show nI c = (38 : Int32) from (e 38 (by decide)).mpr c38)]; exact Or.inl ⟨_, rfl, rfl⟩
  rw [if_neg c38, if_neg (show ¬ nI c = (38 : Int32) from fun z => c38 ((e 38 (by decide)).mp z))]
  by_cases c42 : c = 42
  · rw [if_pos c42, if_pos (show nI c = (42 : Int32) from (e 42 (by decide)).mpr c42)]; exact Or.inl ⟨_, rfl, rfl⟩
  rw [if_neg c42, if_neg (show ¬ nI c = (42 : Int32) from fun z => c42 ((e 42 (by decide)).mp z))]
  by_cases c60 : c = 60
  · rw [if_pos c60, if_pos (show nI c = (60 : Int32) from (e 60 (by decide)).mpr c60)]; exact Or.inl ⟨_, rfl, rfl⟩
  rw [if_neg c60, if_neg (show ¬ nI c = (60 : Int32) from fun z => c60 ((e 60 (by decide)).mp z))]
  by_cases c62 : c = 62
  · rw [if_pos c62, if_pos (show nI c = (62 : Int32) from (e 62 (by decide)).mpr c62)]; exact Or.inl ⟨_, rfl, rfl⟩
  rw [if_neg c62, if_neg (show ¬ nI c = (62 : Int32) from fun z => c62 ((e 62 (by decide)).mp z))]
  by_cases c94 : c = 94
  · rw [if_pos c94, if_pos (show nI c = (94 : Int32) from (e 94 (by decide)).mpr c94)]; exact Or.inl ⟨_, rfl, rfl⟩
  rw [if_neg c94, if_neg (show ¬ nI c = (94 : Int32) from fun z => c94 ((e 94 (by decide)).mp z))]
  by_cases c124 : c = 124
  · rw [if_pos c124, if_pos (show nI c = (124 : Int32) from (e 124 (by decide)).mpr c124)]; exact Or.inl ⟨_, rfl, rfl⟩
  rw [if_neg c124, if_neg (show ¬ nI c = (124 : Int32) from fun z => c124 ((e 124 (by decide)).mp z))]
  by_cases z0 : y = 0
  · rw [if_pos z0, if_pos ((lg_cmp_eq y 0).mpr z0)]; exact Or.inr ⟨rfl, rfl⟩
  · have gz0 : ∀ (α : Type) (k : Option α), gn (y = 0) k = k := fun α k => if_neg z0
    rw [if_neg z0, if_neg (fun z => z0 ((lg_cmp_eq y 0).mp z))]
    simp only [gz0]
    by_cases c47 : c = 47
    · rw [if_pos c47, if_pos (show nI c = (47 : Int32) from (e 47 (by decide)).mpr c47)]; exact Or.inl ⟨_, rfl, rfl⟩
    · rw [if_neg c47, if_neg (show ¬ nI c = (47 : Int32) from fun z => c47 ((e 47 (by decide)).mp z))]; exact Or.inl ⟨_, rfl, rfl⟩
theorem V_between (q : Nat) (hq : q + 1 < 512) {c : Nat} (hc : 1 ≤ rk c) (vd : Int32) (vc : Nat → Int64) (vp vo : Nat → Int32) :
    ∃ vd' vc' vp' vo', f_V_applyBetween (nI (q + 2)) vd vc vp vo (nI c) = some (nI (q + 1), vd', vc', vp', vo') ∧ FR q vc vc' vp vp' vo vo' ∧ BS (jn c (some (vc q, vp q, vo q)) (some (vc (q + 1), vp (q + 1), vo (q + 1)))) vd vd' (vc' q) (vp' q) (vo' q) := by
  have hb := rk_bin hc
  have v1 : nI (q + 2) - 1 = nI (q + 1) := nI_pred _
  have v2 : nI (q + 1) - 1 = nI q := nI_pred _
  have g0 : ∀ (α : Type) (x : Option α), gi (nI q) 512 x = x := fun α x => gi_nI (by omega) (by decide)
  have g1 : ∀ (α : Type) (x : Option α), gi (nI (q + 1)) 512 x = x := fun α x => gi_nI (by omega) (by decide)
  have c0 : (nI q).toNatClampNeg = q := nI_clamp (by omega)
  have c1 : (nI (q + 1)).toNatClampNeg = q + 1 := nI_clamp (by omega)
  have k0 : (0 : Int32) ≤ nI q := nI_pos' (by omega)
  have one : ¬ (1 : Int32) = 0 := by decide
  have frc : ∀ y : Int64, FR q vc (vp_updL vc q y) vp vp vo vo := fun y j hj => ⟨updL_ne _ _ (by omega), rfl, rfl⟩
  unfold f_V_applyBetween f_V_add f_V_takeOff f_V_isPlace f_V_isConstant
  rw [v1, v2, if_pos k0]
  simp only [g0, g1, c0, c1]
  by_cases c43 : c = 43
  · rw [if_pos (show nI c = (43 : Int32) by rw [c43]; rfl), c43]
    by_cases p : vp q = -1
    · simp only [p, one, Option.bind_some, ↓reduceIte]
      refine ⟨_, _, _, _, rfl, fun j hj => ⟨updL_ne _ _ (by omega), upd_ne _ _ (by omega), upd_ne _ _ (by omega)⟩, ?_⟩
      rw [updL_at, upd_at, upd_at]
      exact BS.s rfl rfl
    · by_cases r : vp (q + 1) = -1
      · simp only [p, r, one, Option.bind_some, ↓reduceIte]
        refine ⟨_, _, _, _, rfl, frc _, ?_⟩
        rw [updL_at]
        refine BS.s ?_ rfl
        show (if vp q = -1 then some _ else if (-1 : Int32) = -1 then some _ else none) = _
        rw [if_neg p, if_pos rfl]
      · simp only [p, r, Option.bind_some, ↓reduceIte]
        refine ⟨_, _, _, _, rfl, frc _, BS.n ?_ rfl⟩
        show (if vp q = -1 then some _ else if vp (q + 1) = -1 then some _ else none) = _
        rw [if_neg p, if_neg r]
  · rw [if_neg (show ¬ nI c = (43 : Int32) from nI_k (b := 43) (by omega) (by decide) c43)]
    by_cases c45 : c = 45
    · rw [if_pos (show nI c = (45 : Int32) by rw [c45]; rfl), c45]
      by_cases r : vp (q + 1) = -1
      · have hj : jn 45 (some (vc q, vp q, vo q)) (some (vc (q + 1), vp (q + 1), vo (q + 1))) = some (vc q - vc (q + 1), vp q, vo q) := by
          show (if vp (q + 1) = -1 then some _ else if _ then some _ else none) = _
          rw [if_pos r]
        rw [hj]
        by_cases p : vp q = -1
        · simp only [p, r, one, Option.bind_some, ↓reduceIte]
          refine ⟨_, _, _, _, rfl, frc _, ?_⟩
          rw [updL_at]
          exact BS.s (by rw [p]) rfl
        · by_cases o : vo q = -1
          · simp only [p, r, o, one, Option.bind_some, ↓reduceIte]
            refine ⟨_, _, _, _, rfl, frc _, ?_⟩
            rw [updL_at]
            exact BS.s (by rw [o]) rfl
          · simp only [p, r, o, one, Option.bind_some, ↓reduceIte]
            refine ⟨_, _, _, _, rfl, frc _, ?_⟩
            rw [updL_at]
            exact BS.s rfl rfl
      · by_cases p : vp q = -1
        · simp only [p, r, Option.bind_some, ↓reduceIte]
          refine ⟨_, _, _, _, rfl, frc _, BS.n ?_ rfl⟩
          show (if vp (q + 1) = -1 then some _ else if (-1 : Int32) ≠ -1 ∧ vo q = -1 ∧ vo (q + 1) = -1 then some _ else none) = _
          rw [if_neg r, if_neg (fun z => z.1 rfl)]
        · by_cases o : vo q = -1
          · by_cases o1 : vo (q + 1) = -1
            · simp only [p, r, o, o1, one, Option.bind_some, ↓reduceIte]
              refine ⟨_, _, _, _, rfl, fun j hj => ⟨updL_ne _ _ (by omega), rfl, upd_ne _ _ (by omega)⟩, ?_⟩
              rw [updL_at, upd_at]
              refine BS.s ?_ rfl
              show (if vp (q + 1) = -1 then some _ else if vp q ≠ -1 ∧ (-1 : Int32) = -1 ∧ (-1 : Int32) = -1 then some _ else none) = _
              rw [if_neg r, if_pos ⟨p, rfl, rfl⟩]
            · simp only [p, r, o, o1, one, Option.bind_some, ↓reduceIte]
              refine ⟨_, _, _, _, rfl, frc _, BS.n ?_ rfl⟩
              show (if vp (q + 1) = -1 then some _ else if vp q ≠ -1 ∧ (-1 : Int32) = -1 ∧ vo (q + 1) = -1 then some _ else none) = _
              rw [if_neg r, if_neg (fun z => o1 z.2.2)]
          · simp only [p, r, o, Option.bind_some, ↓reduceIte]
            refine ⟨_, _, _, _, rfl, frc _, BS.n ?_ rfl⟩
            show (if vp (q + 1) = -1 then some _ else if vp q ≠ -1 ∧ vo q = -1 ∧ vo (q + 1) = -1 then some _ else none) = _
            rw [if_neg r, if_neg (fun z => o z.2.1)]
    · rw [if_neg (show ¬ nI c = (45 : Int32) from nI_k (b := 45) (by omega) (by decide) c45)]
      have hj : jn c (some (vc q, vp q, vo q)) (some (vc (q + 1), vp (q + 1), vo (q + 1))) = if vp q = -1 ∧ vp (q + 1) = -1 then (comb c (vc q) (vc (q + 1))).bind (fun z => some (z, vp q, vo q)) else none := by
        show (if c = 43 then _ else if c = 45 then _ else _) = _
        rw [if_neg c43, if_neg c45]
      rw [hj]
      by_cases p : vp q = -1
      · by_cases r : vp (q + 1) = -1
        · simp only [p, r, one, Option.bind_some, ↓reduceIte, and_self]
          rcases comb_k vd c hc c43 c45 (vc q) (vc (q + 1)) with ⟨z, h1, h2⟩ | ⟨h1, h2⟩
          · rw [h1, h2, Option.bind_some]
            refine ⟨_, _, _, _, rfl, frc _, ?_⟩
            rw [updL_at]
            exact BS.s (by rw [p]; rfl) rfl
          · rw [h1, h2, Option.bind_some]
            exact ⟨_, _, _, _, rfl, frc _, BS.n rfl rfl⟩
        · simp only [p, r, one, Option.bind_some, ↓reduceIte, and_false]
          exact ⟨_, _, _, _, rfl, fun j hj => ⟨rfl, rfl, rfl⟩, BS.n rfl rfl⟩
      · simp only [p, Option.bind_some, ↓reduceIte, false_and]
        exact ⟨_, _, _, _, rfl, fun j hj => ⟨rfl, rfl, rfl⟩, BS.n rfl rfl⟩
theorem jn_none {c : Nat} {a b : Vl} (h : a = none ∨ b = none) : jn c a b = none := by
  rcases h with h | h
  · rw [h]; rfl
  · rw [h]; cases a <;> rfl
theorem V_apb {V : List Vl} {vn vd : Int32} {vc : Nat → Int64} {vp vo : Nat → Int32} (h : VS V vn vd vc vp vo) {c : Nat} (hc : 1 ≤ rk c) :
    ∃ vn' vd' vc' vp' vo', f_V_applyBetween vn vd vc vp vo (nI c) = some (vn', vd', vc', vp', vo') ∧ VS (apb c V) vn' vd' vc' vp' vo' := by
  obtain ⟨h1, h2, h3, h4⟩ := h
  rcases V with _ | ⟨b, _ | ⟨a, V⟩⟩
  · refine ⟨vn, vd, vc, vp, vo, ?_, h1, h2, h3, h4⟩
    unfold f_V_applyBetween
    rw [h1, if_neg (show ¬ (0 : Int32) ≤ nI ([] : List Vl).length - 1 - 1 by decide)]
  · refine ⟨vn, vd, vc, vp, vo, ?_, h1, h2, h3, h4⟩
    unfold f_V_applyBetween
    rw [h1, if_neg (show ¬ (0 : Int32) ≤ nI [b].length - 1 - 1 by rw [show [b].length = 1 from rfl]; decide)]
  · rw [List.length_cons, List.length_cons] at h1 h4
    obtain ⟨hb, ha, hV⟩ := h3
    rw [List.length_cons] at hb
    obtain ⟨vd', vc', vp', vo', g1, g2, g3⟩ := V_between V.length (by omega) hc vd vc vp vo
    rw [h1]
    refine ⟨_, vd', vc', vp', vo', g1, ?_⟩
    show VS (jn c a b :: V) _ _ _ _ _
    have odd0 : ods (b :: a :: V) = (b.isNone || (a.isNone || ods V)) := rfl
    have odd1 : ods (jn c a b :: V) = ((jn c a b).isNone || ods V) := rfl
    refine ⟨by rw [List.length_cons], ?_, ⟨fun x hx => ?_, VC_fr V g2 hV⟩, by rw [List.length_cons]; omega⟩
    · cases b with
      | none =>
        have hv : vd = 1 := by rw [h2, odd0]; rfl
        rw [odd1, jn_none (Or.inr rfl)]
        show vd' = 1
        cases hJ : jn c (some (vc V.length, vp V.length, vo V.length)) (some (vc (V.length + 1), vp (V.length + 1), vo (V.length + 1))) with
        | none => exact g3.2 hJ
        | some z => rw [(g3.1 z hJ).1]; exact hv
      | some y =>
        cases a with
        | none =>
          have hv : vd = 1 := by rw [h2, odd0]; rfl
          rw [odd1, jn_none (Or.inl rfl)]
          show vd' = 1
          cases hJ : jn c (some (vc V.length, vp V.length, vo V.length)) (some (vc (V.length + 1), vp (V.length + 1), vo (V.length + 1))) with
          | none => exact g3.2 hJ
          | some z => rw [(g3.1 z hJ).1]; exact hv
        | some x =>
          obtain ⟨a1, a2, a3⟩ := ha x rfl
          obtain ⟨b1, b2, b3⟩ := hb y rfl
          rw [a1, a2, a3, b1, b2, b3] at g3
          rw [odd1]
          cases hJ : jn c (some x) (some y) with
          | none => rw [g3.2 hJ]; rfl
          | some z => rw [(g3.1 z hJ).1, h2, odd0]; rfl
    · cases b with
      | none => rw [jn_none (Or.inr rfl)] at hx; cases hx
      | some y =>
        cases a with
        | none => rw [jn_none (Or.inl rfl)] at hx; cases hx
        | some x0 =>
          obtain ⟨a1, a2, a3⟩ := ha x0 rfl
          obtain ⟨b1, b2, b3⟩ := hb y rfl
          rw [a1, a2, a3, b1, b2, b3] at g3
          exact (g3.1 x hx).2
