theorem cM_b {w : Nat} (h : w < 1256) : (cM w = 41 ↔ w = 41) ∧ (cM w = 40 ↔ w = 40) := by
  unfold cM
  by_cases a : w = 60
  · rw [if_pos a, a]; decide
  · rw [if_neg a]
    by_cases b : w = 62
    · rw [if_pos b, b]; decide
    · rw [if_neg b]
      exact ⟨nI_eq (b := 41) (by omega) (by decide), nI_eq (b := 40) (by omega) (by decide)⟩
theorem M_w15 {L : List RI} {mma mod : Int32} {si pu mi : Nat → Int32} {va : Nat → Int64} (h : ST L mma mod si pu mi va) {k : Nat} (hk : k ≤ L.length) (hb : ∀ j x, j < k → L[j]? = some x → x.1 ≠ 41) (he : k = L.length ∨ ∃ z, L[k]? = some (41, z)) :
    ∀ f i, i ≤ k → k - i < f → f_M_work_l15n f mma mod si pu mi va (nI i) = some (nI k, mma, mod, si, pu, mi, va) := by
  have hl := h.2.2.1
  intro f
  induction f with
  | zero => intro i _ h; omega
  | succ f ih =>
    intro i hi hf
    unfold f_M_work_l15n
    by_cases c : i = k
    · rw [c]
      by_cases d : k = L.length
      · rw [if_pos (by rw [h.1.1]; exact nI_le (by omega) (by omega))]
      · rcases he with he | ⟨z, he⟩
        · exact absurd he d
        · rw [if_neg (by rw [h.1.1]; exact nI_ge (by omega) (by omega)), gi_nI (by omega) (by decide), nI_clamp (by omega), (h.1.2 k _ he).1, if_pos (show cM 41 = 41 by decide)]
    · have hlt : i < L.length := by omega
      have hx := List.getElem?_eq_getElem hlt
      have hw := h.2.2.2 L[i] (List.getElem_mem hlt)
      rw [if_neg (by rw [h.1.1]; exact nI_ge (by omega) (by omega)), gi_nI (by omega) (by decide), nI_clamp (by omega), (h.1.2 i _ hx).1, if_neg (fun q => hb i _ (by omega) hx ((cM_b hw.2.2).1.mp q)), nI_1]
      exact ih (i + 1) (by omega) (by omega)
theorem M_w44 {L : List RI} {mma mod : Int32} {si pu mi : Nat → Int32} {va : Nat → Int64} (h : ST L mma mod si pu mi va) {p : Nat} (x1 : Int32) (he : p = 0 ∨ ∃ z, L[p - 1]? = some (40, z)) :
    ∀ f k, p ≤ k → k ≤ L.length → (∀ j x, p ≤ j → j < k → L[j]? = some x → x.1 ≠ 40) → k - p < f → f_M_work_l44n f mma mod si pu mi va x1 (nI k - 1) = some (x1, nI p - 1, mma, mod, si, pu, mi, va) := by
  have hl := h.2.2.1
  intro f
  induction f with
  | zero => intro k _ _ _ h; omega
  | succ f ih =>
    intro k h1 h2 hb hf
    unfold f_M_work_l44n
    cases k with
    | zero =>
      have : p = 0 := by omega
      rw [this, if_pos (by decide)]
    | succ k =>
      rw [nI_pred, if_neg (nI_pos (by omega)), gi_nI (by omega) (by decide), nI_clamp (by omega)]
      have hlt : k < L.length := by omega
      have hx := List.getElem?_eq_getElem hlt
      have hw := h.2.2.2 L[k] (List.getElem_mem hlt)
      by_cases c : p = k + 1
      · rcases he with he | ⟨z, he⟩
        · omega
        · rw [c, Nat.add_sub_cancel] at he
          rw [(h.1.2 k _ he).1, if_pos (show cM 40 = 40 by decide), c, nI_pred]
      · rw [(h.1.2 k _ hx).1, if_neg (fun q => hb k _ (by omega) (by omega) hx ((cM_b hw.2.2).2.mp q)), show nI k + (-1) = nI k - 1 by rw [Int32.sub_eq_add_neg]]
        exact ih k (by omega) (by omega) (fun j x a b c => hb j x a (by omega) c) (by omega)
theorem get_mem_l {α : Type} {P Q : List α} {j : Nat} {x : α} (hj : j < P.length) (h : (P ++ Q)[j]? = some x) : x ∈ P := by
  rw [List.getElem?_append_left hj] at h
  exact List.mem_of_getElem? h
theorem M_wk : ∀ n (L : List RI) mma mod si pu mi va, L.length ≤ n → ST L mma mod si pu mi va → gr L true 0 = true → ∀ f, n < f →
    ∃ mma' mod' si' pu' mi' va' v, f_M_work_l5 f mma mod si pu mi va = some (mma', mod', si', pu', mi', va') ∧ ST [(0, v)] mma' mod' si' pu' mi' va' ∧ SY L = [v] := by
  intro n
  induction n with
  | zero =>
    intro L _ _ _ _ _ _ hn _ hg
    cases L with
    | nil => cases hg
    | cons x L => exact absurd hn (by rw [List.length_cons]; omega)
  | succ n ih =>
    intro L mma mod si pu mi va hn hST hg f hf
    cases f with
    | zero => omega
    | succ f =>
      have hl := hST.2.2.1
      unfold f_M_work_l5
      by_cases c1 : L.length ≤ 1
      · rw [if_pos (by rw [hST.1.1]; exact nI_le (b := 1) c1 (by decide))]
        rcases L with _ | ⟨x, _ | ⟨y, L⟩⟩
        · cases hg
        · obtain ⟨d, h1, h2⟩ := gr_s hg
          have hd : d.1 = false := by
            cases hd : d.1 with
            | false => rfl
            | true => rw [hd] at h2; cases h2
          have hx : x.1 = 0 := by
            by_cases a : x.1 = 0
            · exact a
            · unfold gst at h1
              rw [if_pos rfl, if_neg a] at h1
              by_cases b : x.1 = 40
              · rw [if_pos b] at h1; rw [← Option.some.inj h1] at hd; cases hd
              · rw [if_neg b] at h1
                by_cases c : 1000 < x.1 ∧ pfx (x.1 - 1000) = true
                · rw [if_pos c] at h1; rw [← Option.some.inj h1] at hd; cases hd
                · rw [if_neg c] at h1; cases h1
          obtain ⟨xc, xv⟩ := x
          have hx : xc = 0 := hx
          rw [hx] at hST ⊢
          exact ⟨_, _, _, _, _, _, xv, rfl, hST, SY_one xv⟩
        · exact absurd c1 (by rw [List.length_cons, List.length_cons]; omega)
      · rw [if_neg (by rw [hST.1.1]; exact nI_ge (a := 1) (by omega) (by omega))]
        rcases fst41 L with h41 | ⟨P, z, C, eL, hP⟩
        · obtain ⟨-, hnob⟩ := gr_flat L true 0 h41 hg
          have hfl := (gr_nb (R := []) (fun x r q => nomatch q) L true 0 hnob (by rw [List.append_nil]; exact hg)).1
          rw [show (0 : Int32) = nI 0 from rfl, M_w15 hST (Nat.le_refl _) (fun j x _ h => h41 x (List.mem_of_getElem? h)) (Or.inl rfl) FU 0 (by omega) (by unfold FU; omega), Option.bind_some]
          rw [M_w44 hST (p := 0) (nI L.length) (Or.inl rfl) FU L.length (by omega) (Nat.le_refl _) (fun j x _ _ h => (hnob x (List.mem_of_getElem? h)).1) (by unfold FU; omega), Option.bind_some]
          unfold f_M_work_l5_j65
          obtain ⟨m1, m2, m3, m4, m5, m6, v, r1, r2, r3⟩ := M_reduce (A := []) (S := L) (C := []) (Or.inl rfl) (fun x r q => nomatch q) (by rw [List.append_nil]; exact hST) hnob hfl
          have r1 : f_M_reduce mma mod si pu mi va (nI 0) (nI (0 + L.length)) = some (m1, m2, m3, m4, m5, m6) := r1
          rw [Nat.zero_add] at r1
          rw [show nI 0 - 1 + 1 = nI 0 by decide, r1, Option.bind_some]
          dsimp only
          rw [if_neg (show ¬ (0 : Int32) ≤ nI 0 - 1 by decide)]
          refine ⟨m1, m2, m3, m4, m5, m6, v, rfl, r2, ?_⟩
          rw [List.append_nil] at r3
          rw [show L = [] ++ L from rfl, r3]
          exact SY_one v
        · rcases lst40 P with h40 | ⟨A, z', S, eP, hS⟩
          · exfalso
            have := (gr_nb (R := (41, z) :: C) (fun x r q => by rw [← (List.cons.inj q).1]) P true 0 (fun x hx => ⟨h40 x hx, hP x hx⟩) (by rw [← eL]; exact hg)).2
            obtain ⟨d, d1, -⟩ := gr_s this
            cases d1
          · have hnob : nob S := fun x hx => ⟨hS x hx, hP x (by rw [eP]; exact List.mem_append_right _ (List.mem_cons_of_mem _ hx))⟩
            have lP : P.length = A.length + 1 + S.length := by rw [eP, List.length_append, List.length_cons]; omega
            have lL : L.length = A.length + 1 + S.length + 1 + C.length := by rw [eL, List.length_append, List.length_cons, lP]; omega
            have eL2 : L = A ++ (40, z') :: (S ++ (41, z) :: C) := by rw [eL, eP, List.append_assoc]; rfl
            have eL3 : L = (A ++ [(40, z')]) ++ (S ++ (41, z) :: C) := by rw [eL2, List.append_assoc]; rfl
            have lA : (A ++ [(40, z')]).length = A.length + 1 := by rw [List.length_append]; rfl
            obtain ⟨hfl, hgr⟩ := gr_br hnob z' z A true 0 (by rw [← eL2]; exact hg)
            have hg41 : L[P.length]? = some (41, z) := by rw [eL]; exact mid_at _ _ _
            have hg40 : L[A.length]? = some (40, z') := by rw [eL2]; exact mid_at _ _ _
            rw [show (0 : Int32) = nI 0 from rfl, M_w15 hST (k := P.length) (by omega) (fun j x hj h => hP x (get_mem_l (Q := (41, z) :: C) hj (by rw [← eL]; exact h))) (Or.inr ⟨z, hg41⟩) FU 0 (by omega) (by unfold FU; omega), Option.bind_some]
            rw [M_w44 hST (p := A.length + 1) (nI P.length) (Or.inr ⟨z', by rw [Nat.add_sub_cancel]; exact hg40⟩) FU P.length (by omega) (by omega) (fun j x h1 h2 h => by
              rw [eL3, List.getElem?_append_right (by rw [lA]; omega)] at h
              exact (hnob x (get_mem_l (by rw [lA]; omega) h)).1) (by unfold FU; omega), Option.bind_some]
            unfold f_M_work_l5_j65
            have hcl : cl ((41, z) :: C) := fun x r q => by rw [← (List.cons.inj q).1]
            obtain ⟨m1, m2, m3, m4, m5, m6, v, r1, r2, r3⟩ := M_reduce (A := A ++ [(40, z')]) (S := S) (C := (41, z) :: C) (Or.inr ⟨A, z', rfl⟩) hcl (by rw [← eL3]; exact hST) hnob hfl
            rw [lA] at r1
            rw [nI_pred]
            dsimp only
            rw [nI_1, lP, r1, Option.bind_some, if_pos (show (0 : Int32) ≤ nI A.length from nI_pos' (by omega)), show nI A.length + (2 : Int32) = nI (A.length + 2) from nI_add _ 2, show (1 : Int32) = nI 1 from rfl]
            have eM : (A ++ [(40, z')]) ++ (0, v) :: (41, z) :: C = (A ++ [(40, z'), (0, v)]) ++ (41, z) :: C := by rw [List.append_assoc, List.append_assoc]; rfl
            have lM : (A ++ [(40, z'), (0, v)]).length = A.length + 2 := by rw [List.length_append]; rfl
            have lT : ((A ++ [(40, z')]) ++ (0, v) :: (41, z) :: C).length = A.length + 3 + C.length := by rw [eM, List.length_append, lM, List.length_cons]; omega
            obtain ⟨a1, a2, a3, a4, a5, b1, b2⟩ := M_remove r2.1 (by rw [lT]; omega) (k := A.length + 2) (n := 1) (by rw [lT]; omega)
            have t1 : ((A ++ [(40, z')]) ++ (0, v) :: (41, z) :: C).take (A.length + 2) = A ++ [(40, z'), (0, v)] := by rw [eM, ← lM]; exact take_mid _ _
            have eM2 : (A ++ [(40, z')]) ++ (0, v) :: (41, z) :: C = (A ++ [(40, z'), (0, v), (41, z)]) ++ C := by rw [List.append_assoc, List.append_assoc]; rfl
            have t2 : ((A ++ [(40, z')]) ++ (0, v) :: (41, z) :: C).drop (A.length + 2 + 1) = C := by rw [eM2, show A.length + 2 + 1 = (A ++ [(40, z'), (0, v), (41, z)]).length by rw [List.length_append]; rfl]; exact drop_mid _ _
            rw [t1, t2] at b2
            dsimp only
            rw [b1, Option.bind_some]
            have lT2 : ((A ++ [(40, z'), (0, v)]) ++ C).length = A.length + 2 + C.length := by rw [List.length_append, lM]
            obtain ⟨c1', c2, c3, c4, c5, d1, d2⟩ := M_remove b2 (by rw [lT2]; omega) (k := A.length) (n := 1) (by rw [lT2]; omega)
            have u1 : ((A ++ [(40, z'), (0, v)]) ++ C).take A.length = A := by rw [List.append_assoc]; exact take_mid _ _
            have u2 : ((A ++ [(40, z'), (0, v)]) ++ C).drop (A.length + 1) = (0, v) :: C := by rw [show (A ++ [(40, z'), (0, v)]) ++ C = (A ++ [(40, z')]) ++ (0, v) :: C by rw [List.append_assoc, List.append_assoc]; rfl, ← lA]; exact drop_mid _ _
            rw [u1, u2] at d2
            dsimp only
            rw [d1, Option.bind_some]
            have hz : z = sgv := (hST.2.2.2 (41, z) (by rw [eL]; exact List.mem_append_right _ (List.mem_cons_self))).2.1 (show 41 ≠ 0 by decide)
            have hz' : z' = sgv := (hST.2.2.2 (40, z') (by rw [eL2]; exact List.mem_append_right _ (List.mem_cons_self))).2.1 (show 40 ≠ 0 by decide)
            have hodr : odr ((A ++ [(40, z')]) ++ (0, v) :: (41, z) :: C) = odr (A ++ (0, v) :: C) := by
              rw [odr_app, odr_app, odr_app, hz, hz', show odr [(40, sgv)] = false from rfl, Bool.or_false, odr_cons, odr_cons, odr_cons, show ((41, sgv) : RI).2.isNone = false from rfl, Bool.false_or]
            obtain ⟨n1, n2, n3, n4, n5, n6, w, s1, s2, s3⟩ := ih (A ++ (0, v) :: C) c1' m2 c2 c3 c4 c5 (by rw [List.length_append, List.length_cons]; omega) ⟨d2, by rw [← hodr]; exact r2.2.1, by rw [List.length_append, List.length_cons]; omega, fun x hx => by
              rcases List.mem_append.mp hx with k | k
              · exact r2.2.2.2 x (List.mem_append_left _ (List.mem_append_left _ k))
              · rcases List.mem_cons.mp k with k | k
                · exact r2.2.2.2 x (List.mem_append_right _ (by rw [k]; exact List.mem_cons_self))
                · exact r2.2.2.2 x (List.mem_append_right _ (List.mem_cons_of_mem _ (List.mem_cons_of_mem _ k)))⟩ (hgr v) f (by omega)
            refine ⟨n1, n2, n3, n4, n5, n6, w, s1, s2, ?_⟩
            rw [← s3, eL3, r3, ← SY_brack A C z' v z, List.append_assoc]
            rfl
theorem rl_ok : ∀ (its : List It) due, (∀ x ∈ its, x.1 < 256) → (rl its due).length = its.length ∧ ∀ x ∈ rl its due, GV x.2 ∧ (x.1 ≠ 0 → x.2 = sgv) ∧ x.1 < 1256 ∧ x.2.isNone = false := by
  intro its
  induction its with
  | nil => intro due _; exact ⟨rfl, fun x hx => absurd hx List.not_mem_nil⟩
  | cons t its ih =>
    intro due h
    have hs : GV sgv := fun x hx _ => by rw [← Option.some.inj hx]
    have ht := h t (List.mem_cons_self)
    have go : ∀ (y : RI) d, (GV y.2 ∧ (y.1 ≠ 0 → y.2 = sgv) ∧ y.1 < 1256 ∧ y.2.isNone = false) → (y :: rl its d).length = its.length + 1 ∧ ∀ x ∈ y :: rl its d, GV x.2 ∧ (x.1 ≠ 0 → x.2 = sgv) ∧ x.1 < 1256 ∧ x.2.isNone = false := by
      intro y d hy
      obtain ⟨i1, i2⟩ := ih d (fun x hx => h x (List.mem_cons_of_mem _ hx))
      refine ⟨by rw [List.length_cons, i1], fun x hx => ?_⟩
      rcases List.mem_cons.mp hx with k | k
      · rw [k]; exact hy
      · exact i2 x k
    have hsg : ∀ c, c < 1256 → (GV ((c, sgv) : RI).2 ∧ (((c, sgv) : RI).1 ≠ 0 → ((c, sgv) : RI).2 = sgv) ∧ ((c, sgv) : RI).1 < 1256 ∧ ((c, sgv) : RI).2.isNone = false) := fun c hc => ⟨hs, fun _ => rfl, hc, rfl⟩
    unfold rl
    rw [List.length_cons]
    cases due with
    | true =>
      rw [if_pos rfl]
      by_cases a : t.1 = 0
      · rw [if_pos a]
        exact go _ _ ⟨fun x hx _ => by rw [← Option.some.inj hx], fun q => absurd rfl q, by show 0 < 1256; decide, rfl⟩
      · rw [if_neg a]
        by_cases b : t.1 = 40
        · rw [if_pos b]; exact go _ _ (hsg 40 (by decide))
        · rw [if_neg b]; exact go _ _ (hsg _ (by omega))
    | false =>
      rw [if_neg (by decide)]
      by_cases a : t.1 = 41
      · rw [if_pos a]; exact go _ _ (hsg 41 (by decide))
      · rw [if_neg a]; exact go _ _ (hsg _ (by omega))
theorem M_work {its : List It} (hi : ∀ x ∈ its, x.1 < 256) (hl : its.length ≤ 1024) {pr : Bool} (hok : okx pr its true 0 = true) {mma mod : Int32} {si pu mi : Nat → Int32} {va : Nat → Int64} (h : AR (rl its true) mma si pu mi va) :
    ∃ mma' mod' si' pu' mi' va' v, f_M_work mma mod si pu mi va = some (mma', mod', si', pu', mi', va') ∧ ST [(0, v)] mma' mod' si' pu' mi' va' ∧ SY (rl its true) = [v] := by
  obtain ⟨l1, l2⟩ := rl_ok its true hi
  have hodr : odr (rl its true) = false := by
    cases h : odr (rl its true) with
    | false => rfl
    | true =>
      obtain ⟨x, x1, x2⟩ := List.any_eq_true.mp h
      rw [(l2 x x1).2.2.2] at x2
      cases x2
  unfold f_M_work
  exact M_wk its.length (rl its true) mma 0 si pu mi va (by rw [l1]; exact Nat.le_refl _) ⟨h, by rw [hodr]; rfl, by rw [l1]; exact hl, fun x hx => ⟨(l2 x hx).1, (l2 x hx).2.1, (l2 x hx).2.2.1⟩⟩ (gr_rl its true 0 hok) FU (by unfold FU; omega)
