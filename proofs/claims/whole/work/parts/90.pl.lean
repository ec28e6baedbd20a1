theorem fl_app : ∀ (P : List RI) due Q, fl (P ++ Q) due = true → ∃ d, fl Q d = true ∧ ∀ Q', fl Q' d = true → fl (P ++ Q') due = true := by
  intro P
  induction P with
  | nil => intro due Q h; exact ⟨due, h, fun Q' h' => h'⟩
  | cons x P ih =>
    intro due Q h
    have h : (match gst x.1 due 0 with | none => false | some d => fl (P ++ Q) d.1) = true := h
    cases hg : gst x.1 due 0 with
    | none => rw [hg] at h; cases h
    | some d =>
      rw [hg] at h
      obtain ⟨e, e1, e2⟩ := ih d.1 Q h
      refine ⟨e, e1, fun Q' h' => ?_⟩
      show (match gst x.1 due 0 with | none => false | some d => fl (P ++ Q') d.1) = true
      rw [hg]
      exact e2 Q' h'
theorem fl_s {x : RI} {Q : List RI} {due : Bool} (h : fl (x :: Q) due = true) : ∃ d, gst x.1 due 0 = some d ∧ fl Q d.1 = true := by
  unfold fl at h
  cases hg : gst x.1 due 0 with
  | none => rw [hg] at h; cases h
  | some d => rw [hg] at h; exact ⟨d, rfl, h⟩
theorem gst_p {c : Nat} {due : Bool} {o : Nat} {d : Bool × Nat} (h1 : 1000 < c) (h : gst c due o = some d) : due = true ∧ d.1 = true ∧ pfx (c - 1000) = true := by
  cases due with
  | false =>
    obtain ⟨e, -⟩ := gst_f (by omega) h
    have := rk_bin e
    omega
  | true =>
    unfold gst at h
    rw [if_pos rfl, if_neg (by omega), if_neg (by omega)] at h
    by_cases a : 1000 < c ∧ pfx (c - 1000) = true
    · rw [if_pos a] at h; rw [← Option.some.inj h]; exact ⟨rfl, rfl, a.2⟩
    · rw [if_neg a] at h; cases h
theorem opn_fl {Q C : List RI} (h : fl Q false = true) (hn : nob Q) (hC : cl C) : opn 6 (Q ++ C) := by
  intro x r hx
  cases Q with
  | nil => exact Or.inl (hC x r hx)
  | cons y Q =>
    obtain ⟨d, d1, d2⟩ := fl_s h
    rw [← (List.cons.inj hx).1]
    exact Or.inr ⟨(gst_f (hn y (List.mem_cons_self)).2 d1).1, rk_6 _⟩
theorem cM_le {w : Nat} (h : w < 1256) : cM w ≤ 1000 ↔ w ≤ 1000 := by
  unfold cM
  by_cases a : w = 60
  · rw [if_pos a, a]; decide
  · rw [if_neg a]
    by_cases b : w = 62
    · rw [if_pos b, b]; decide
    · rw [if_neg b]
      exact nI_leI (b := 1000) (by omega) (by decide)
theorem nI_m1lt {k : Nat} (h : k < 2 ^ 31) : nI k - 1 < nI k := by
  cases k with
  | zero => decide
  | succ k => rw [nI_pred]; exact nI_lt (by omega) h
theorem M_pre {A C : List RI} (hC : cl C) (x3 : Int32) : ∀ f (P Q : List RI) mma mod si pu mi va, ST (A ++ (P ++ (Q ++ C))) mma mod si pu mi va → nob (P ++ Q) → npx Q → fl (P ++ Q) true = true → P.length < f →
    ∃ mma' mod' si' pu' mi' va' Q', f_M_reduce_l12 f mma mod si pu mi va (nI A.length) x3 (nI (A.length + P.length) - 1) = f_M_reduce_l47 FU mma' mod' si' pu' mi' va' (nI A.length) x3 6 ∧ ST (A ++ (Q' ++ C)) mma' mod' si' pu' mi' va' ∧ nob Q' ∧ npx Q' ∧ fl Q' true = true ∧ SY (A ++ (P ++ (Q ++ C))) = SY (A ++ (Q' ++ C)) := by
  intro f
  induction f with
  | zero => intro P Q _ _ _ _ _ _ _ _ _ _ h; omega
  | succ f ih =>
    intro P Q mma mod si pu mi va hST hn hp hf hl
    have hlen := hST.2.2.1
    rw [List.length_append] at hlen
    unfold f_M_reduce_l12
    rcases List.eq_nil_or_concat P with e | ⟨P', x, e⟩
    · rw [e] at hST hn hf ⊢
      rw [if_pos (show nI (A.length + ([] : List RI).length) - 1 < nI A.length from nI_m1lt (k := A.length) (by omega))]
      exact ⟨mma, mod, si, pu, mi, va, Q, rfl, hST, hn, hp, hf, rfl⟩
    · have e : P = P' ++ [x] := by rw [e, List.concat_eq_append]
      have eL : A ++ (P ++ (Q ++ C)) = (A ++ P') ++ x :: (Q ++ C) := by rw [e, List.append_assoc, List.append_assoc]; rfl
      have eP : P ++ Q = P' ++ x :: Q := by rw [e, List.append_assoc]; rfl
      have el : A.length + P.length = A.length + P'.length + 1 := by rw [e, List.length_append]; rfl
      have eAP : (A ++ P').length = A.length + P'.length := List.length_append
      rw [eP] at hn hf
      rw [eL] at hST ⊢
      have hx := hST.1.2 _ _ (mid_at (A ++ P') (Q ++ C) x)
      rw [eAP] at hx
      have hmx : x ∈ (A ++ P') ++ x :: (Q ++ C) := List.mem_append_right _ (List.mem_cons_self)
      obtain ⟨x1, x2, x3'⟩ := hST.2.2.2 x hmx
      rw [List.length_append, List.length_append] at hlen
      have hk : A.length + P'.length < 1100 := by rw [← eL] at hST; have := hST.2.2.1; rw [eL, List.length_append, List.length_cons, eAP] at this; omega
      rw [el, nI_pred, if_neg (nI_nlt (by omega) (by omega)), gi_nI hk (by decide), nI_clamp (by omega), hx.1]
      obtain ⟨d, fd, fc⟩ := fl_app P' true (x :: Q) hf
      obtain ⟨g, g1, g2⟩ := fl_s fd
      have hdec : nI (A.length + P'.length) + (-1) = nI (A.length + P'.length) - 1 := by rw [Int32.sub_eq_add_neg]
      by_cases c : x.1 ≤ 1000
      · rw [if_pos ((cM_le x3').mpr c), hdec]
        have := ih P' (x :: Q) mma mod si pu mi va (by rw [show A ++ (P' ++ (x :: Q ++ C)) = (A ++ P') ++ x :: (Q ++ C) by rw [List.append_assoc]; rfl]; exact hST) hn (fun y hy => by
          rcases List.mem_cons.mp hy with q | q
          · rw [q]; exact c
          · exact hp y q) hf (by rw [e, List.length_append] at hl; have : [x].length = 1 := rfl; omega)
        rw [show A ++ (P' ++ (x :: Q ++ C)) = (A ++ P') ++ x :: (Q ++ C) by rw [List.append_assoc]; rfl] at this
        exact this
      · rw [if_neg (fun z => c ((cM_le x3').mp z))]
        obtain ⟨p1, p2, p3⟩ := gst_p (by omega) g1
        rw [p2] at g2
        cases Q with
        | nil => cases g2
        | cons y Q =>
          obtain ⟨b, b1, b2⟩ := fl_s g2
          have my : y ∈ P' ++ x :: y :: Q := List.mem_append_right _ (List.mem_cons_of_mem _ (List.mem_cons_self))
          obtain ⟨c1, c2⟩ := gst_t (hn y my).1 (hp y (List.mem_cons_self)) b1
          rw [c2] at b2
          obtain ⟨yc, yv⟩ := y
          have c1 : yc = 0 := c1
          rw [c1] at hST hn hf ⊢
          obtain ⟨xc, xz⟩ := x
          have hyG := (hST.2.2.2 (0, yv) (List.mem_append_right _ (List.mem_cons_of_mem _ (List.mem_cons_self)))).1
          have hnQ : nob Q := fun z hz => hn z (List.mem_append_right _ (List.mem_cons_of_mem _ (List.mem_cons_of_mem _ hz)))
          have hlf : (A ++ P').length + 2 + (Q ++ C).length ≤ 1024 := by
            have := hST.2.2.1
            rw [List.length_append, List.length_cons] at this
            have q : (((0, yv) :: Q : List RI) ++ C).length = (Q ++ C).length + 1 := rfl
            omega
          obtain ⟨m1, m2, m3, m4, m5, m6, r1, r2, r3⟩ := M_front (A := A ++ P') (C := Q ++ C) (w := xc) (z := xz) (v := yv) hST.1 (x2 (by have : ¬ xc ≤ 1000 := c; show xc ≠ 0; omega)) (by have : ¬ xc ≤ 1000 := c; omega) p3 hlf hyG hST.2.1
          rw [eAP] at r1
          rw [r1, Option.bind_some, hdec]
          have hgx : gst 0 true 0 = some (false, 0) := rfl
          have hf' : fl (P' ++ (0, frt (xc - 1000) yv) :: Q) true = true := fc _ (by rw [p1]; exact b2)
          have eL' : A ++ (P' ++ ((0, frt (xc - 1000) yv) :: Q ++ C)) = (A ++ P') ++ (0, frt (xc - 1000) yv) :: (Q ++ C) := by rw [List.append_assoc]; rfl
          have := ih P' ((0, frt (xc - 1000) yv) :: Q) m1 m2 m3 m4 m5 m6 (by
            rw [eL']
            refine ⟨r2, r3, by rw [List.length_append, List.length_cons]; omega, fun z hz => ?_⟩
            rcases List.mem_append.mp hz with k | k
            · exact hST.2.2.2 z (List.mem_append_left _ k)
            · rcases List.mem_cons.mp k with k | k
              · rw [k]; exact ⟨GV_frt hyG, (fun q => absurd rfl q), (show 0 < 1256 by decide)⟩
              · exact hST.2.2.2 z (List.mem_append_right _ (List.mem_cons_of_mem _ (List.mem_cons_of_mem _ k)))) (by
            intro z hz
            rcases List.mem_append.mp hz with k | k
            · exact hn z (List.mem_append_left _ k)
            · rcases List.mem_cons.mp k with k | k
              · rw [k]; exact ⟨(show 0 ≠ 40 by decide), (show 0 ≠ 41 by decide)⟩
              · exact hnQ z k) (by
            intro z hz
            rcases List.mem_cons.mp hz with k | k
            · rw [k]; exact Nat.zero_le _
            · exact hp z (List.mem_cons_of_mem _ k)) hf' (by rw [e, List.length_append] at hl; have : [(xc, xz)].length = 1 := rfl; omega)
          obtain ⟨n1, n2, n3, n4, n5, n6, Q', s1, s2, s3, s4, s5, s6⟩ := this
          refine ⟨n1, n2, n3, n4, n5, n6, Q', s1, s2, s3, s4, s5, ?_⟩
          rw [← s6, eL']
          exact SY_front (A ++ P') (Q ++ C) (by have : ¬ xc ≤ 1000 := c; omega) xz yv (opn_fl b2 hnQ hC)
/-- the operations of one strength, from the left -/
theorem M_bin {A C : List RI} (hA : A = [] ∨ ∃ A' z, A = A' ++ [(40, z)]) (hC : cl C) {s : Nat} (hs : 1 ≤ s) (hs6 : s ≤ 6) : ∀ f (D : List (Vl × Nat)) a (R : List (Nat × Vl)) mma mod si pu mi va, ST (A ++ (flD D ++ (0, a) :: (flR R ++ C))) mma mod si pu mi va → (∀ p ∈ D, 1 ≤ rk p.2 ∧ rk p.2 < s) → (∀ p ∈ R, 1 ≤ rk p.1 ∧ rk p.1 ≤ s) → R.length < f →
    ∃ mma' mod' si' pu' mi' va' D' a', f_M_reduce_l57n f mma mod si pu mi va (nI A.length) (nI C.length) (nI s) (nI (A.length + 2 * D.length + 1)) = some (nI A.length, nI C.length, nI s, mma', mod', si', pu', mi', va') ∧ ST (A ++ (flD D' ++ (0, a') :: C)) mma' mod' si' pu' mi' va' ∧ (∀ p ∈ D', 1 ≤ rk p.2 ∧ rk p.2 < s) ∧ SY (A ++ (flD D ++ (0, a) :: (flR R ++ C))) = SY (A ++ (flD D' ++ (0, a') :: C)) := by
  intro f
  induction f with
  | zero => intro D a R _ _ _ _ _ _ _ _ _ h; omega
  | succ f ih =>
    intro D a R mma mod si pu mi va hST hD hR hl
    have hlen : (A ++ (flD D ++ (0, a) :: (flR R ++ C))).length = A.length + 2 * D.length + 1 + 2 * R.length + C.length := by
      rw [List.length_append, List.length_append, List.length_cons, List.length_append, flD_len, flR_len]; omega
    have h1024 := hST.2.2.1
    rw [hlen] at h1024
    unfold f_M_reduce_l57n
    rw [hST.1.1, hlen, pk_sub (by omega), show A.length + 2 * D.length + 1 + 2 * R.length + C.length - C.length = A.length + 2 * D.length + 1 + 2 * R.length by omega]
    cases R with
    | nil =>
      rw [if_pos (nI_le (by rw [List.length_nil]; omega) (by omega)), ← hlen, ← hST.1.1]
      exact ⟨mma, mod, si, pu, mi, va, D, a, rfl, hST, hD, rfl⟩
    | cons p R =>
      obtain ⟨c, b⟩ := p
      rw [List.length_cons] at h1024 hl
      obtain ⟨hc, hcs⟩ := hR (c, b) (List.mem_cons_self)
      have hc : 1 ≤ rk c := hc
      have hcs : rk c ≤ s := hcs
      have eL : A ++ (flD D ++ (0, a) :: (flR ((c, b) :: R) ++ C)) = (A ++ flD D) ++ (0, a) :: (c, sgv) :: (0, b) :: (flR R ++ C) := by rw [List.append_assoc]; rfl
      have eA : (A ++ flD D).length = A.length + 2 * D.length := by rw [List.length_append, flD_len]
      have e1 : ((A ++ flD D) ++ [(0, a)]) ++ (c, sgv) :: (0, b) :: (flR R ++ C) = (A ++ flD D) ++ (0, a) :: (c, sgv) :: (0, b) :: (flR R ++ C) := by rw [List.append_assoc]; rfl
      have l1 : ((A ++ flD D) ++ [(0, a)]).length = A.length + 2 * D.length + 1 := by rw [List.length_append, eA]; rfl
      have hx := hST.1.2 (A.length + 2 * D.length + 1) (c, sgv) (by rw [eL, ← e1, ← l1]; exact mid_at _ _ _)
      rw [if_neg (nI_ge (by rw [List.length_cons]; omega) (by rw [List.length_cons]; omega)), gi_nI (by omega) (by decide), nI_clamp (by omega), hx.1, M_str (rk_bin hc).2.2.2.1, Option.bind_some]
      have hRR : ∀ p ∈ R, 1 ≤ rk p.1 ∧ rk p.1 ≤ s := fun p hp => hR p (List.mem_cons_of_mem _ hp)
      by_cases q : rk c = s
      · rw [if_pos (by rw [q]), ← hlen, ← hST.1.1]
        rw [eL] at hST
        have hGa := (hST.2.2.2 (0, a) (List.mem_append_right _ (List.mem_cons_self))).1
        have hGb := (hST.2.2.2 (0, b) (List.mem_append_right _ (List.mem_cons_of_mem _ (List.mem_cons_of_mem _ (List.mem_cons_self))))).1
        have hlR : (flR R ++ C).length = 2 * R.length + C.length := by rw [List.length_append, flR_len]
        obtain ⟨m1, m2, m3, m4, m5, m6, r1, r2, r3⟩ := M_join (A := A ++ flD D) (C := flR R ++ C) hST.1 rfl hc (by rw [eA, hlR]; omega) hGa hGb hST.2.1
        rw [eA] at r1
        rw [r1, Option.bind_some]
        have eL' : A ++ (flD D ++ (0, jn c a b) :: (flR R ++ C)) = (A ++ flD D) ++ (0, jn c a b) :: (flR R ++ C) := by rw [List.append_assoc]
        obtain ⟨n1, n2, n3, n4, n5, n6, D', a', s1, s2, s3, s4⟩ := ih D (jn c a b) R m1 m2 m3 m4 m5 m6 (by
          rw [eL']
          refine ⟨r2, r3, by rw [List.length_append, List.length_cons, hlR, eA]; omega, fun z hz => ?_⟩
          rcases List.mem_append.mp hz with k | k
          · exact hST.2.2.2 z (List.mem_append_left _ k)
          · rcases List.mem_cons.mp k with k | k
            · rw [k]; exact ⟨GV_jn hGa hGb, (fun q => absurd rfl q), (show 0 < 1256 by decide)⟩
            · exact hST.2.2.2 z (List.mem_append_right _ (List.mem_cons_of_mem _ (List.mem_cons_of_mem _ (List.mem_cons_of_mem _ k))))) hD hRR (by omega)
        refine ⟨n1, n2, n3, n4, n5, n6, D', a', s1, s2, s3, ?_⟩
        rw [← s4, eL, eL']
        refine SY_join (A ++ flD D) (flR R ++ C) hc a sgv b ?_ ?_
        · rcases List.eq_nil_or_concat D with e | ⟨D0, p, e⟩
          · rw [e, show flD [] = [] from rfl, List.append_nil]
            rcases hA with h | ⟨A', z, h⟩
            · rw [h]; exact top_nil _
            · rw [h]; exact top_40 A' z hc
          · have e : D = D0 ++ [p] := by rw [e, List.concat_eq_append]
            have hp := hD p (by rw [e]; exact List.mem_append_right _ (List.mem_cons_self))
            rw [e, flD_app, show A ++ (flD D0 ++ [(0, p.1), (p.2, sgv)]) = (A ++ (flD D0 ++ [(0, p.1)])) ++ [(p.2, sgv)] by rw [List.append_assoc, List.append_assoc]; rfl]
            exact top_bin _ hp.1 sgv (by rw [q]; exact hp.2)
        · intro x r hx
          cases R with
          | nil => exact Or.inl (hC x r hx)
          | cons p R =>
            rw [← (List.cons.inj hx).1]
            have := hRR p (List.mem_cons_self)
            exact Or.inr ⟨this.1, by rw [q]; exact this.2⟩
      · have hne : ¬ nI (rk c) = nI s := nI_k (by have := rk_6 c; omega) (by omega) q
        rw [if_neg hne, ← hlen, ← hST.1.1]
        have eL2 : A ++ (flD D ++ (0, a) :: (flR ((c, b) :: R) ++ C)) = A ++ (flD (D ++ [(a, c)]) ++ (0, b) :: (flR R ++ C)) := by
          rw [flD_app, List.append_assoc]; rfl
        rw [eL2] at hST ⊢
        have ex : nI (A.length + 2 * D.length + 1) + (2 : Int32) = nI (A.length + 2 * (D ++ [(a, c)]).length + 1) := by
          rw [show (2 : Int32) = nI 2 from rfl, nI_add, List.length_append]; rfl
        rw [ex]
        exact ih (D ++ [(a, c)]) b R mma mod si pu mi va hST (fun p hp => by
          rcases List.mem_append.mp hp with k | k
          · exact hD p k
          · rw [List.mem_singleton.mp k]; exact ⟨hc, by show rk c < s; omega⟩) hRR (by omega)
theorem M_lev {A C : List RI} (hA : A = [] ∨ ∃ A' z, A = A' ++ [(40, z)]) (hC : cl C) : ∀ s, s ≤ 6 → ∀ f a (R : List (Nat × Vl)) mma mod si pu mi va, ST (A ++ ((0, a) :: flR R ++ C)) mma mod si pu mi va → (∀ p ∈ R, 1 ≤ rk p.1 ∧ rk p.1 ≤ s) → s < f →
    ∃ mma' mod' si' pu' mi' va' v, f_M_reduce_l47 f mma mod si pu mi va (nI A.length) (nI C.length) (nI s) = some (mma', mod', si', pu', mi', va') ∧ ST (A ++ (0, v) :: C) mma' mod' si' pu' mi' va' ∧ SY (A ++ ((0, a) :: flR R ++ C)) = SY (A ++ (0, v) :: C) := by
  intro s
  induction s with
  | zero =>
    intro _ f a R mma mod si pu mi va hST hR hf
    cases f with
    | zero => omega
    | succ f =>
      unfold f_M_reduce_l47
      rw [if_pos (show nI 0 ≤ 0 by decide)]
      cases R with
      | nil => exact ⟨_, _, _, _, _, _, a, rfl, hST, rfl⟩
      | cons p R => have := hR p (List.mem_cons_self); omega
  | succ s ih =>
    intro hs6 f a R mma mod si pu mi va hST hR hf
    cases f with
    | zero => omega
    | succ f =>
      unfold f_M_reduce_l47
      have hlen : (A ++ ((0, a) :: flR R ++ C)).length = A.length + 1 + 2 * R.length + C.length := by
        rw [List.length_append, List.length_append, List.length_cons, flR_len]; omega
      have h1024 := hST.2.2.1
      rw [hlen] at h1024
      rw [if_neg (nI_nle (by omega) (by omega)), nI_1]
      obtain ⟨m1, m2, m3, m4, m5, m6, D, b, r1, r2, r3, r4⟩ := M_bin hA hC (s := s + 1) (by omega) hs6 FU [] a R mma mod si pu mi va hST (fun p hp => absurd hp List.not_mem_nil) hR (by unfold FU; omega)
      have r1 : f_M_reduce_l57n FU mma mod si pu mi va (nI A.length) (nI C.length) (nI (s + 1)) (nI (A.length + 1)) = _ := r1
      rw [r1, Option.bind_some, nI_m1]
      obtain ⟨a', R', e1, e2⟩ := flD_R D b (fun c => 1 ≤ rk c ∧ rk c < s + 1) r3
      have eL : A ++ (flD D ++ (0, b) :: C) = A ++ ((0, a') :: flR R' ++ C) := by
        rw [← e1, List.append_assoc]; rfl
      rw [eL] at r2 r4
      obtain ⟨n1, n2, n3, n4, n5, n6, v, s1, s2, s3⟩ := ih (by omega) f a' R' m1 m2 m3 m4 m5 m6 r2 (fun p hp => ⟨(e2 p hp).1, by have := (e2 p hp).2; omega⟩) (by omega)
      exact ⟨n1, n2, n3, n4, n5, n6, v, s1, s2, by rw [← s3, ← r4]; rfl⟩
theorem M_reduce {A S C : List RI} (hA : A = [] ∨ ∃ A' z, A = A' ++ [(40, z)]) (hC : cl C) {mma mod : Int32} {si pu mi : Nat → Int32} {va : Nat → Int64} (hST : ST (A ++ (S ++ C)) mma mod si pu mi va) (hn : nob S) (hf : fl S true = true) :
    ∃ mma' mod' si' pu' mi' va' v, f_M_reduce mma mod si pu mi va (nI A.length) (nI (A.length + S.length)) = some (mma', mod', si', pu', mi', va') ∧ ST (A ++ (0, v) :: C) mma' mod' si' pu' mi' va' ∧ SY (A ++ (S ++ C)) = SY (A ++ (0, v) :: C) := by
  have h1024 := hST.2.2.1
  have hlen : (A ++ (S ++ C)).length = A.length + S.length + C.length := by rw [List.length_append, List.length_append]; omega
  rw [hlen] at h1024
  unfold f_M_reduce
  have e3 : mma - nI (A.length + S.length) = nI C.length := by rw [hST.1.1, hlen, pk_sub (by omega), show A.length + S.length + C.length - (A.length + S.length) = C.length by omega]
  rw [e3]
  obtain ⟨m1, m2, m3, m4, m5, m6, Q, r1, r2, r3, r4, r5, r6⟩ := M_pre (A := A) (C := C) hC (nI C.length) FU S [] mma mod si pu mi va hST (by rw [List.append_nil]; exact hn) (fun x hx => absurd hx List.not_mem_nil) (by rw [List.append_nil]; exact hf) (by unfold FU; omega)
  rw [r1]
  obtain ⟨a, R, e1, e2⟩ := fl_R Q.length Q (Nat.le_refl _) r3 r4 (fun x hx => (r2.2.2.2 x (List.mem_append_right _ (List.mem_append_left _ hx))).2.1) r5
  rw [e1] at r2 r6
  obtain ⟨n1, n2, n3, n4, n5, n6, v, s1, s2, s3⟩ := M_lev hA hC 6 (by omega) FU a R m1 m2 m3 m4 m5 m6 r2 (fun p hp => ⟨e2 p hp, rk_6 _⟩) (by unfold FU; omega)
  exact ⟨n1, n2, n3, n4, n5, n6, v, s1, s2, by rw [← s3, ← r6]; rfl⟩
