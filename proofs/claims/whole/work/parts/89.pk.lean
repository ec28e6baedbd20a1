/-! The reference's work gives what SY says -/
def gst (c : Nat) (due : Bool) (o : Nat) : Option (Bool × Nat) := if due = true then (if c = 0 then some (false, o) else if c = 40 then some (true, o + 1) else if 1000 < c ∧ pfx (c - 1000) = true then some (true, o) else none) else if c = 41 then (if o = 0 then none else some (false, o - 1)) else if 1 ≤ rk c then some (true, o) else none
theorem gr_c (x : RI) (r : List RI) (due : Bool) (o : Nat) : gr (x :: r) due o = (match gst x.1 due o with | none => false | some d => gr r d.1 d.2) := by
  conv => lhs; unfold gr
  unfold gst
  by_cases h : due = true
  · rw [if_pos h, if_pos h]
    by_cases a : x.1 = 0
    · rw [if_pos a, if_pos a]
    · rw [if_neg a, if_neg a]
      by_cases b : x.1 = 40
      · rw [if_pos b, if_pos b]
      · rw [if_neg b, if_neg b]
        by_cases c : 1000 < x.1 ∧ pfx (x.1 - 1000) = true
        · rw [if_pos c, if_pos c]
        · rw [if_neg c, if_neg c]
  · rw [if_neg h, if_neg h]
    by_cases a : x.1 = 41
    · rw [if_pos a, if_pos a]
      by_cases b : o = 0
      · rw [if_pos b, if_pos b]
      · rw [if_neg b, if_neg b]
    · rw [if_neg a, if_neg a]
      by_cases c : 1 ≤ rk x.1
      · rw [if_pos c, if_pos c]
      · rw [if_neg c, if_neg c]
theorem gr_s {x : RI} {r : List RI} {due : Bool} {o : Nat} (h : gr (x :: r) due o = true) : ∃ d, gst x.1 due o = some d ∧ gr r d.1 d.2 = true := by
  rw [gr_c] at h
  cases hg : gst x.1 due o with
  | none => rw [hg] at h; cases h
  | some d => rw [hg] at h; exact ⟨d, rfl, h⟩
theorem gr_m {x : RI} {r : List RI} {due : Bool} {o : Nat} {d : Bool × Nat} (h : gst x.1 due o = some d) (h2 : gr r d.1 d.2 = true) : gr (x :: r) due o = true := by
  rw [gr_c, h]; exact h2
/-- segments without brackets -/
def fl : List RI → Bool → Bool
  | [], due => !due
  | x :: r, due => match gst x.1 due 0 with
    | none => false
    | some d => fl r d.1
def nob (S : List RI) : Prop := ∀ x ∈ S, x.1 ≠ 40 ∧ x.1 ≠ 41
def cl (R : List RI) : Prop := ∀ x r, R = x :: r → x.1 = 41
theorem gst_nb {c : Nat} {due : Bool} {o : Nat} {d : Bool × Nat} (h1 : c ≠ 40) (h2 : c ≠ 41) (h : gst c due o = some d) : d.2 = o ∧ ∀ k, gst c due k = some (d.1, k) := by
  unfold gst at h ⊢
  by_cases hd : due = true
  · rw [if_pos hd] at h
    by_cases a : c = 0
    · rw [if_pos a] at h
      rw [← Option.some.inj h]
      exact ⟨rfl, fun k => by rw [if_pos hd, if_pos a]⟩
    · rw [if_neg a, if_neg h1] at h
      by_cases b : 1000 < c ∧ pfx (c - 1000) = true
      · rw [if_pos b] at h
        rw [← Option.some.inj h]
        exact ⟨rfl, fun k => by rw [if_pos hd, if_neg a, if_neg h1, if_pos b]⟩
      · rw [if_neg b] at h; cases h
  · rw [if_neg hd, if_neg h2] at h
    by_cases b : 1 ≤ rk c
    · rw [if_pos b] at h
      rw [← Option.some.inj h]
      exact ⟨rfl, fun k => by rw [if_neg hd, if_neg h2, if_pos b]⟩
    · rw [if_neg b] at h; cases h
theorem gr_nb {R : List RI} (hR : cl R) : ∀ (S : List RI) due o, nob S → gr (S ++ R) due o = true → fl S due = true ∧ gr R false o = true := by
  intro S
  induction S with
  | nil =>
    intro due o _ h
    cases due with
    | false => exact ⟨rfl, h⟩
    | true =>
      cases R with
      | nil => cases h
      | cons x r =>
        have hx := hR x r rfl
        obtain ⟨d, h1, -⟩ := gr_s h
        rw [hx] at h1
        unfold gst at h1
        rw [if_pos rfl, if_neg (by decide), if_neg (by decide), if_neg (by decide)] at h1
        cases h1
  | cons x S ih =>
    intro due o hn h
    obtain ⟨d, h1, h2⟩ := gr_s h
    obtain ⟨n1, n2⟩ := hn x (List.mem_cons_self)
    obtain ⟨g1, g2⟩ := gst_nb n1 n2 h1
    rw [g1] at h2
    obtain ⟨r1, r2⟩ := ih d.1 o (fun y hy => hn y (List.mem_cons_of_mem _ hy)) h2
    refine ⟨?_, r2⟩
    unfold fl
    rw [g2 0]
    exact r1
theorem gr_br {S C : List RI} (hS : nob S) (z z' : Vl) : ∀ (A : List RI) due o, gr (A ++ (40, z) :: (S ++ (41, z') :: C)) due o = true → fl S true = true ∧ ∀ v, gr (A ++ (0, v) :: C) due o = true := by
  intro A
  induction A with
  | nil =>
    intro due o h
    obtain ⟨d, h1, h2⟩ := gr_s h
    cases due with
    | false =>
      unfold gst at h1
      rw [if_neg (by decide), if_neg (show ¬ (40, z).1 = 41 from fun q => by cases q), if_neg (show ¬ 1 ≤ rk 40 by decide)] at h1
      cases h1
    | true =>
      have h1 : some (true, o + 1) = some d := h1
      rw [← Option.some.inj h1] at h2
      obtain ⟨f1, f2⟩ := gr_nb (R := (41, z') :: C) (fun x r q => by rw [← (List.cons.inj q).1]) S true (o + 1) hS h2
      refine ⟨f1, fun v => gr_m (d := (false, o)) rfl ?_⟩
      obtain ⟨e, e1, e2⟩ := gr_s f2
      have e1 : some (false, o + 1 - 1) = some e := e1
      rw [← Option.some.inj e1] at e2
      exact e2
  | cons x A ih =>
    intro due o h
    obtain ⟨d, h1, h2⟩ := gr_s h
    obtain ⟨r1, r2⟩ := ih _ _ h2
    exact ⟨r1, fun v => gr_m h1 (r2 v)⟩
theorem gr_flat : ∀ (L : List RI) due o, (∀ x ∈ L, x.1 ≠ 41) → gr L due o = true → o = 0 ∧ nob L := by
  intro L
  induction L with
  | nil =>
    intro due o _ h
    unfold gr at h
    have h := (Bool.and_eq_true _ _ ▸ h)
    exact ⟨of_decide_eq_true h.2, fun x hx => absurd hx List.not_mem_nil⟩
  | cons x L ih =>
    intro due o hn h
    obtain ⟨d, h1, h2⟩ := gr_s h
    obtain ⟨r1, r2⟩ := ih d.1 d.2 (fun y hy => hn y (List.mem_cons_of_mem _ hy)) h2
    have n41 := hn x (List.mem_cons_self)
    have n40 : x.1 ≠ 40 := by
      intro q
      rw [q] at h1
      cases due with
      | false =>
        unfold gst at h1
        rw [if_neg (by decide), if_neg (by decide), if_neg (by decide)] at h1
        cases h1
      | true =>
        have h1 : some (true, o + 1) = some d := h1
        rw [← Option.some.inj h1] at r1
        cases r1
    refine ⟨by rw [← (gst_nb n40 n41 h1).1]; exact r1, fun y hy => ?_⟩
    rcases List.mem_cons.mp hy with q | q
    · rw [q]; exact ⟨n40, n41⟩
    · exact r2 y q
/-- the first closing bracket and the last opening one before it -/
theorem fst41 : ∀ (L : List RI), (∀ x ∈ L, x.1 ≠ 41) ∨ ∃ P z C, L = P ++ (41, z) :: C ∧ ∀ x ∈ P, x.1 ≠ 41 := by
  intro L
  induction L with
  | nil => exact Or.inl (fun x hx => absurd hx List.not_mem_nil)
  | cons x L ih =>
    by_cases c : x.1 = 41
    · exact Or.inr ⟨[], x.2, L, by rw [← c]; rfl, fun x hx => absurd hx List.not_mem_nil⟩
    · rcases ih with h | ⟨P, z, C, h1, h2⟩
      · refine Or.inl (fun y hy => ?_)
        rcases List.mem_cons.mp hy with q | q
        · rw [q]; exact c
        · exact h y q
      · refine Or.inr ⟨x :: P, z, C, by rw [h1]; rfl, fun y hy => ?_⟩
        rcases List.mem_cons.mp hy with q | q
        · rw [q]; exact c
        · exact h2 y q
theorem lst40 : ∀ (L : List RI), (∀ x ∈ L, x.1 ≠ 40) ∨ ∃ A z S, L = A ++ (40, z) :: S ∧ ∀ x ∈ S, x.1 ≠ 40 := by
  intro L
  induction L with
  | nil => exact Or.inl (fun x hx => absurd hx List.not_mem_nil)
  | cons x L ih =>
    rcases ih with h | ⟨A, z, S, h1, h2⟩
    · by_cases c : x.1 = 40
      · exact Or.inr ⟨[], x.2, L, by rw [← c]; rfl, h⟩
      · refine Or.inl (fun y hy => ?_)
        rcases List.mem_cons.mp hy with q | q
        · rw [q]; exact c
        · exact h y q
    · exact Or.inr ⟨x :: A, z, S, by rw [h1]; rfl, h2⟩
/-- the reference's state -/
def ST (L : List RI) (mma mod : Int32) (si pu mi : Nat → Int32) (va : Nat → Int64) : Prop := AR L mma si pu mi va ∧ mod = b01 (odr L) ∧ L.length ≤ 1024 ∧ ∀ x ∈ L, GV x.2 ∧ (x.1 ≠ 0 → x.2 = sgv) ∧ x.1 < 1256
/-- items without prefixes -/
def flR : List (Nat × Vl) → List RI
  | [] => []
  | p :: R => (p.1, sgv) :: (0, p.2) :: flR R
def flD : List (Vl × Nat) → List RI
  | [] => []
  | p :: D => (0, p.1) :: (p.2, sgv) :: flD D
theorem flR_len : ∀ R, (flR R).length = 2 * R.length := by
  intro R
  induction R with
  | nil => rfl
  | cons p R ih => show (flR R).length + 1 + 1 = 2 * (R.length + 1); omega
theorem flD_len : ∀ D, (flD D).length = 2 * D.length := by
  intro D
  induction D with
  | nil => rfl
  | cons p D ih => show (flD D).length + 1 + 1 = 2 * (D.length + 1); omega
theorem flD_app : ∀ D p, flD (D ++ [p]) = flD D ++ [(0, p.1), (p.2, sgv)] := by
  intro D p
  induction D with
  | nil => rfl
  | cons q D ih => show _ :: _ :: flD (D ++ [p]) = _ :: _ :: (flD D ++ _); rw [ih]
theorem flD_R : ∀ (D : List (Vl × Nat)) (a : Vl) (P : Nat → Prop), (∀ p ∈ D, P p.2) → ∃ a' R, flD D ++ [(0, a)] = (0, a') :: flR R ∧ ∀ p ∈ R, P p.1 := by
  intro D a P
  induction D with
  | nil => intro _; exact ⟨a, [], rfl, fun p hp => absurd hp List.not_mem_nil⟩
  | cons q D ih =>
    intro h
    obtain ⟨a', R, h1, h2⟩ := ih (fun p hp => h p (List.mem_cons_of_mem _ hp))
    refine ⟨q.1, (q.2, a') :: R, ?_, fun p hp => ?_⟩
    · show (0, q.1) :: (q.2, sgv) :: (flD D ++ [(0, a)]) = _
      rw [h1]; rfl
    · rcases List.mem_cons.mp hp with k | k
      · rw [k]; exact h q (List.mem_cons_self)
      · exact h2 p k
def npx (Q : List RI) : Prop := ∀ x ∈ Q, x.1 ≤ 1000
theorem gst_t {c : Nat} {o : Nat} {d : Bool × Nat} (h1 : c ≠ 40) (h2 : c ≤ 1000) (h : gst c true o = some d) : c = 0 ∧ d.1 = false := by
  unfold gst at h
  rw [if_pos rfl] at h
  by_cases a : c = 0
  · rw [if_pos a] at h; rw [← Option.some.inj h]; exact ⟨a, rfl⟩
  · rw [if_neg a, if_neg h1, if_neg (by omega)] at h; cases h
theorem gst_f {c : Nat} {o : Nat} {d : Bool × Nat} (h1 : c ≠ 41) (h : gst c false o = some d) : 1 ≤ rk c ∧ d.1 = true := by
  unfold gst at h
  rw [if_neg (by decide), if_neg h1] at h
  by_cases a : 1 ≤ rk c
  · rw [if_pos a] at h; rw [← Option.some.inj h]; exact ⟨a, rfl⟩
  · rw [if_neg a] at h; cases h
theorem fl_R : ∀ (n : Nat) (Q : List RI), Q.length ≤ n → nob Q → npx Q → (∀ x ∈ Q, x.1 ≠ 0 → x.2 = sgv) → fl Q true = true → ∃ a R, Q = (0, a) :: flR R ∧ ∀ p ∈ R, 1 ≤ rk p.1 := by
  intro n
  induction n with
  | zero =>
    intro Q hl _ _ _ h
    cases Q with
    | nil => cases h
    | cons x Q => exact absurd hl (by rw [List.length_cons]; omega)
  | succ n ih =>
    intro Q hl hn hp hs h
    cases Q with
    | nil => cases h
    | cons x Q =>
      unfold fl at h
      cases hg : gst x.1 true 0 with
      | none => rw [hg] at h; cases h
      | some d =>
        rw [hg] at h
        obtain ⟨e1, e2⟩ := gst_t (hn x (List.mem_cons_self)).1 (hp x (List.mem_cons_self)) hg
        have h : fl Q d.1 = true := h
        rw [e2] at h
        have ex : x = (0, x.2) := by rw [← e1]
        cases Q with
        | nil => exact ⟨x.2, [], by rw [ex]; rfl, fun p hp => absurd hp List.not_mem_nil⟩
        | cons y Q =>
          unfold fl at h
          cases hg2 : gst y.1 false 0 with
          | none => rw [hg2] at h; cases h
          | some d2 =>
            rw [hg2] at h
            have my : y ∈ x :: y :: Q := List.mem_cons_of_mem _ (List.mem_cons_self)
            obtain ⟨f1, f2⟩ := gst_f (hn y my).2 hg2
            have h : fl Q d2.1 = true := h
            rw [f2] at h
            obtain ⟨a, R, r1, r2⟩ := ih Q (by rw [List.length_cons, List.length_cons] at hl; omega) (fun z hz => hn z (List.mem_cons_of_mem _ (List.mem_cons_of_mem _ hz))) (fun z hz => hp z (List.mem_cons_of_mem _ (List.mem_cons_of_mem _ hz))) (fun z hz => hs z (List.mem_cons_of_mem _ (List.mem_cons_of_mem _ hz))) h
            have ey : y = (y.1, sgv) := by rw [← hs y my (rk_bin f1).1]
            refine ⟨x.2, (y.1, a) :: R, ?_, fun p hp => ?_⟩
            · show x :: y :: Q = (0, x.2) :: (y.1, sgv) :: (0, a) :: flR R
              rw [← r1, ← ey, ← ex]
            · rcases List.mem_cons.mp hp with k | k
              · rw [k]; exact f1
              · exact r2 p k
theorem rk_6 (c : Nat) : rk c ≤ 6 := rk_le c
theorem M_str {c : Nat} (h : c < 256) : f_M_strength (cM c) = some (nI (rk c)) := (cM_k c h).2.2.2.2.2
