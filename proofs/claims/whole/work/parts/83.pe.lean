/-! The reference's items: code, value (none: odd) -/
abbrev Vl : Type := Option (Int64 × Int32 × Int32)
abbrev RI : Type := Nat × Vl
def sgv : Vl := some (0, -1, -1)
def cM (c : Nat) : Int32 := if c = 60 then 256 else if c = 62 then 257 else nI c
def AR (L : List RI) (mma : Int32) (msi mpu mmi : Nat → Int32) (mva : Nat → Int64) : Prop := mma = nI L.length ∧ ∀ j x, L[j]? = some x → msi j = cM x.1 ∧ ∀ v, x.2 = some v → mva j = v.1 ∧ mpu j = v.2.1 ∧ mmi j = v.2.2
def rl : List It → Bool → List RI
  | [], _ => []
  | x :: r, due => if due = true then (if x.1 = 0 then (0, some (x.2.1, x.2.2, -1)) :: rl r false else if x.1 = 40 then (40, sgv) :: rl r true else (1000 + x.1, sgv) :: rl r true)
    else if x.1 = 41 then (41, sgv) :: rl r false else (x.1, sgv) :: rl r true
theorem M_put {L : List RI} {mma : Int32} {msi mpu mmi : Nat → Int32} {mva : Nat → Int64} (h : AR L mma msi mpu mmi mva) (hl : L.length < 1100) (c : Nat) (v : Int64) (p m : Int32) (hc : Int32) (ec : hc = cM c) :
    ∃ mma' msi' mpu' mmi' mva', f_M_put mma msi mpu mmi mva hc v p m = some (mma', msi', mpu', mmi', mva') ∧ AR (L ++ [(c, some (v, p, m))]) mma' msi' mpu' mmi' mva' := by
  unfold f_M_put
  rw [h.1]
  iterate 4 rw [gi_nI hl (by decide)]
  rw [nI_clamp (by omega), nI_1, ec]
  refine ⟨_, _, _, _, _, rfl, by rw [List.length_append]; rfl, ?_⟩
  intro j x hj
  rcases app_get hj with ⟨h1, h2⟩ | ⟨h1, h2⟩
  · rw [upd_ne _ _ h2, upd_ne _ _ h2, upd_ne _ _ h2, updL_ne _ _ h2]
    exact h.2 j x h1
  · rw [h1, h2, upd_at, upd_at, upd_at, updL_at]
    exact ⟨rfl, fun w hw => by rw [← Option.some.inj hw]; exact ⟨rfl, rfl, rfl⟩⟩
section
variable (k : Int32 → Int32 → Int32 → (Nat → Int32) → (Nat → Int32) → (Nat → Int32) → (Nat → Int32) → (Nat → Int32) → (Nat → Int64) → (Nat → Int32) → (Nat → Int32) → (Nat → Int32) → (Nat → Int64) → (Nat → Int32) → (Nat → Int32) → (Nat → Int32) → (Nat → Int64) → Int32 → Int32 → Int32 → Int32 → Option (Int32 × Int32 × (Nat → Int32) × (Nat → Int32) × (Nat → Int32) × (Nat → Int64)))
variable (mnm mto mma : Int32) (mli mlt mna mns mst : Nat → Int32) (mco : Nat → Int64) (mki mbe men : Nat → Int32) (mwo : Nat → Int64) (msi mpu mmi : Nat → Int32) (mva : Nat → Int64) (x1 x2 x4 : Int32)
theorem M_j44_w (y0 : Int32) : f_M_isExpression_l12_j44 k mnm mto mma mli mlt mna mns mst mco mki mbe men mwo msi mpu mmi mva x1 x2 1 x4 y0 =
    if y0 = 40 then (f_M_put mma msi mpu mmi mva y0 0 (-1) (-1)).bind (fun o => k mnm mto o.1 mli mlt mna mns mst mco mki mbe men mwo o.2.1 o.2.2.1 o.2.2.2.1 o.2.2.2.2 x1 (x2 + 1) 1 (x4 + 1))
    else if y0 = 45 ∨ y0 = 126 ∨ y0 = 43 then (f_M_put mma msi mpu mmi mva (1000 + y0) 0 (-1) (-1)).bind (fun o => k mnm mto o.1 mli mlt mna mns mst mco mki mbe men mwo o.2.1 o.2.2.1 o.2.2.2.1 o.2.2.2.2 x1 x2 1 (x4 + 1))
    else f_M_isExpression_l12_j125 k mnm mto mma mli mlt mna mns mst mco mki mbe men mwo msi mpu mmi mva x1 x2 1 x4 y0 := by
  unfold f_M_isExpression_l12_j44 f_M_isExpression_l12_j67 f_M_isExpression_l12_j72 f_M_isExpression_l12_j100
  rw [if_neg (show ¬ (1 : Int32) = 0 by decide), if_neg (show ¬ (1 : Int32) = 0 by decide), if_neg (show ¬ (1 : Int32) = 0 by decide), if_neg (show ¬ (1 : Int32) = 0 by decide), if_neg (show ¬ (1 : Int32) = 0 by decide)]
  by_cases a : y0 = 45
  · rw [if_pos a, if_pos (Or.inl a)]
  · rw [if_neg a]
    by_cases b : y0 = 126
    · rw [if_pos b, if_pos (Or.inr (Or.inl b))]
    · rw [if_neg b]
      by_cases c : y0 = 43
      · rw [if_pos c, if_pos (Or.inr (Or.inr c))]
      · rw [if_neg c, if_neg (show ¬ (y0 = 45 ∨ y0 = 126 ∨ y0 = 43) from fun z => z.elim a (fun z => z.elim b c)), if_pos rfl]
theorem M_j44_n (y0 : Int32) : f_M_isExpression_l12_j44 k mnm mto mma mli mlt mna mns mst mco mki mbe men mwo msi mpu mmi mva x1 x2 0 x4 y0 = f_M_isExpression_l12_j297 k mnm mto mma mli mlt mna mns mst mco mki mbe men mwo msi mpu mmi mva x1 x2 0 x4 y0 := by
  have j72 : ∀ y, f_M_isExpression_l12_j72 k mnm mto mma mli mlt mna mns mst mco mki mbe men mwo msi mpu mmi mva x1 x2 0 x4 y0 y = f_M_isExpression_l12_j297 k mnm mto mma mli mlt mna mns mst mco mki mbe men mwo msi mpu mmi mva x1 x2 0 x4 y0 := fun y => by
    unfold f_M_isExpression_l12_j72 f_M_isExpression_l12_j100 f_M_isExpression_l12_j125
    rw [if_pos rfl, if_pos rfl, if_pos rfl]
  unfold f_M_isExpression_l12_j44 f_M_isExpression_l12_j67
  rw [j72, j72]
  by_cases a : y0 = 45
  · rw [if_pos a]
  · rw [if_neg a]
    by_cases b : y0 = 126
    · rw [if_pos b]
    · rw [if_neg b]
      by_cases c : y0 = 43
      · rw [if_pos c]
      · rw [if_neg c]
end
set_option maxRecDepth 20000 in
theorem cM_k : ∀ c, c < 256 → (cM c = 40 ↔ c = 40) ∧ ((cM c = 45 ∨ cM c = 126 ∨ cM c = 43) ↔ pfx c = true) ∧ (cM c = 41 ↔ c = 41) ∧ (cM c = 36 ↔ c = 36) ∧ (pfx c = true → 1000 + cM c = cM (1000 + c)) ∧ f_M_strength (cM c) = some (nI (rk c)) := by decide +kernel
set_option maxRecDepth 20000 in
theorem wM_c : ∀ c, c < 256 → (wM 4 (nI c).toInt64).toInt32 = cM c := by decide +kernel
section
variable {N : Nat} {B : Nat → Nat} {ts : List Tk} {tn : Int32} {tk tb te : Nat → Int32} {tw : Nat → Int64}
variable {mle : Int32} {mli : Nat → Int32} {nl : List Nm} {mnm msp : Int32} {mlt mna mns mst : Nat → Int32} {mco : Nat → Int64}
/-- an operand is put down -/
theorem M_operand (hM : MR N B mle mli) (h : TM ts tn tk tb te tw) (hg : TG N ts) (hnl : ∀ m ∈ nl, NmG m) (hl256 : nl.length ≤ 256) (hk : KM nl mnm msp mlt mna mns mst mco) {j : Nat} {t : Tk} (ht : ts[j]? = some t) (x0 : Int32) (k : Int32 → Int32 → Int32 → (Nat → Int32) → (Nat → Int32) → (Nat → Int32) → (Nat → Int32) → (Nat → Int32) → (Nat → Int64) → (Nat → Int32) → (Nat → Int32) → (Nat → Int32) → (Nat → Int64) → (Nat → Int32) → (Nat → Int32) → (Nat → Int32) → (Nat → Int64) → Int32 → Int32 → Int32 → Int32 → Option (Int32 × Int32 × (Nat → Int32) × (Nat → Int32) × (Nat → Int32) × (Nat → Int64)))
    (mto mma : Int32) (msi mpu mmi : Nat → Int32) (mva : Nat → Int64) (x1 x2 : Int32) (y0 : Int32) (hy : y0 = cM (sgc t)) (hop : t.1 = 1 ∨ t.1 = 2 ∨ sgc t = 36) :
    f_M_isExpression_l12_j158 k mnm mto mma mli mlt mna mns mst mco tk tb te tw msi mpu mmi mva x1 x2 (nI j) y0 = if (itm B nl t).1 = 0 then (f_M_put mma msi mpu mmi mva 0 (itm B nl t).2.1 (itm B nl t).2.2 (-1)).bind (fun o => k mnm mto o.1 mli mlt mna mns mst mco tk tb te tw o.2.1 o.2.2.1 o.2.2.2.1 o.2.2.2.2 x1 x2 0 (nI j + 1)) else some (0, mma, msi, mpu, mmi, mva) := by
  have hN := hg.1
  have hl := hg.2.1
  have c : j < ts.length := (List.getElem?_eq_some_iff.mp ht).1
  have hgt := hg.2.2 t (List.mem_of_getElem? ht)
  have hkk := hgt.k
  obtain ⟨q1, q2, q3, q4⟩ := h.2 j t ht
  have hj : j < 1100 := by omega
  have e36 := (cM_k _ (sgc_lt hgt)).2.2.2.1
  have gj : ∀ (α : Type) (x : Option α), gi (nI j) 1100 x = x := fun α x => gi_nI hj (by decide)
  have cj : (nI j).toNatClampNeg = j := nI_clamp (by omega)
  have lm1 : (-1 : Int32) < 0 := by decide
  unfold f_M_isExpression_l12_j158 f_M_isExpression_l12_j179 f_M_isExpression_l12_j199 f_M_isExpression_l12_j249 f_M_isExpression_l12_j250
  simp only [gj, cj, q1, q4, hy]
  by_cases d : t.1 = 1
  · have hs : sgc t = 0 := sgc_n (by omega)
    have n36 : ¬ cM (sgc t) = 36 := by rw [hs]; decide
    have n2 : ¬ (1 : Int32) = (2 : Int32) := by decide
    have y1 : nI t.1 = (1 : Int32) := by rw [d]; rfl
    rw [M_find hM hnl hl256 hk hj q2 q3 (Nat.le_of_lt hgt.1) hgt.2.1]
    simp only [n36, n2, y1, Option.bind_some, ↓reduceIte]
    cases hf : fnd B t.2.1 (t.2.2.1 - t.2.1) nl with
    | none =>
      have : itm B nl t = (0, 0, -1) := by unfold itm; rw [if_pos d, hf]
      rw [this]
      simp only [lm1, ↓reduceIte]
    | some i =>
      obtain ⟨m, hm⟩ := fnf_lt _ _ _ _ _ _ _ hf
      have hi : i < nl.length := (List.getElem?_eq_some_iff.mp hm).1
      obtain ⟨sp, hsp, -, hkk2⟩ := hk.2
      obtain ⟨a, k1, k2, k3, k4, k5, k6⟩ := hkk2 i m hm
      have hmg := hnl m (List.mem_of_getElem? hm)
      have : itm B nl t = if m.2.2.1 = -1 then (1, 0, -1) else (0, m.2.2.2, whr m.2.2.1) := by
        unfold itm
        rw [if_pos d, hf]
        dsimp only
        rw [hm]
      rw [this]
      have gI : ∀ (α : Type) (x : Option α), gi (nI i) 2200 x = x := fun α x => gi_nI (by omega) (by decide)
      have cI : (nI i).toNatClampNeg = i := nI_clamp (by omega)
      have nI0 : ¬ nI i < 0 := nI_pos (by omega)
      simp only [gI, cI, nI0, k5, k6, ↓reduceIte]
      by_cases e : m.2.2.1 = -1
      · simp only [e, ↓reduceIte]
        rfl
      · simp only [e, ↓reduceIte]
        by_cases f : m.2.2.1 = -2
        · have l2 : (-2 : Int32) < 0 := by decide
          simp only [f, l2, ↓reduceIte]
          rfl
        · simp only [f, ↓reduceIte]
          rcases hmg.2.2.1 with g | g | g
          · exact absurd g e
          · exact absurd g f
          · have g' : ¬ m.2.2.1 < 0 := fun z => Int32.not_le.mpr z g
            simp only [g', ↓reduceIte]
            rw [hmg.2.2.2 f, show whr m.2.2.1 = m.2.2.1 from if_pos g]
  · have n1 : ¬ nI t.1 = (1 : Int32) := nI_k (b := 1) (by omega) (by decide) d
    simp only [n1, lm1, ↓reduceIte]
    by_cases e : t.1 = 2
    · have hs : sgc t = 0 := sgc_n (by omega)
      have n36 : ¬ cM (sgc t) = 36 := by rw [hs]; decide
      have y2 : nI t.1 = (2 : Int32) := by rw [e]; rfl
      rw [itm_2 e]
      simp only [y2, n36, ↓reduceIte]
      rw [e]
      rfl
    · have f4 : t.1 = 4 := by
        rcases hop with z | z | z
        · omega
        · omega
        · rcases Nat.lt_or_ge t.1 4 with g | g
          · rw [sgc_n (by omega)] at z; omega
          · omega
      have f36 : sgc t = 36 := by
        rcases hop with z | z | z
        · omega
        · omega
        · exact z
      have n2 : ¬ nI t.1 = (2 : Int32) := nI_k (b := 2) (by omega) (by decide) e
      have y36 : cM (sgc t) = 36 := e36.mpr f36
      rw [itm_sg hgt f4, if_pos f36]
      simp only [n2, y36, ↓reduceIte]
theorem M_isExpr_l (hM : MR N B mle mli) (h : TM ts tn tk tb te tw) (hg : TG N ts) {kn : Int32} {kq : Nat → Option Nat} {ns : List NmR} (hKR : KR nl kn kq ns) (hk : KM nl mnm msp mlt mna mns mst mco) (pr : Bool) :
    ∀ n j (due : Bool) o (L : List RI) mma msi mpu mmi mva, j ≤ ts.length → ts.length - j < n → o ≤ j → L.length = j → AR L mma msi mpu mmi mva → ∃ mma' msi' mpu' mmi' mva', f_M_isExpression_l12 n mnm tn mma mli mlt mna mns mst mco tk tb te tw msi mpu mmi mva (b01 pr) (nI o) (b01 due) (nI j) = some (b01 (okx pr ((ts.map (itm B nl)).drop j) due o), mma', msi', mpu', mmi', mva') ∧ (okx pr ((ts.map (itm B nl)).drop j) due o = true → AR (L ++ rl ((ts.map (itm B nl)).drop j) due) mma' msi' mpu' mmi' mva') := by
  have hN := hg.1
  have hl := hg.2.1
  intro n
  induction n with
  | zero => intro j due o L mma msi mpu mmi mva h1 h2; omega
  | succ n ih =>
    intro j due o L mma msi mpu mmi mva h1 h2 ho hL hA
    unfold f_M_isExpression_l12
    rw [h.1]
    by_cases c : j < ts.length
    · rw [drop_map _ c]
      have ht := List.getElem?_eq_getElem c
      generalize ts[j] = t at ht ⊢
      have hgt := hg.2.2 t (List.mem_of_getElem? ht)
      have hkk := hgt.k
      have hsl := sgc_lt hgt
      have hcode := itm_code (B := B) hKR hgt
      obtain ⟨q1, q2, q3, q4⟩ := h.2 j t ht
      have hj : j < 1100 := by omega
      obtain ⟨c40, cpf, c41, c36, cpx, cst⟩ := cM_k _ hsl
      have key : (if tk (nI j).toNatClampNeg = 4 then gi (nI j) 1100 (f_M_isExpression_l12_j44 (f_M_isExpression_l12 n) mnm (nI ts.length) mma mli mlt mna mns mst mco tk tb te tw msi mpu mmi mva (b01 pr) (nI o) (b01 due) (nI j) ((tw (nI j).toNatClampNeg).toInt32)) else f_M_isExpression_l12_j44 (f_M_isExpression_l12 n) mnm (nI ts.length) mma mli mlt mna mns mst mco tk tb te tw msi mpu mmi mva (b01 pr) (nI o) (b01 due) (nI j) 0) = f_M_isExpression_l12_j44 (f_M_isExpression_l12 n) mnm (nI ts.length) mma mli mlt mna mns mst mco tk tb te tw msi mpu mmi mva (b01 pr) (nI o) (b01 due) (nI j) (cM (sgc t)) := by
        rw [gi_nI hj (by decide), nI_clamp (by omega), q1, q4]
        by_cases d : t.1 = 4
        · obtain ⟨g1, g2, g3, g4⟩ := sgc_4 hgt d
          rw [if_pos (show nI t.1 = (4 : Int32) by rw [d]; rfl), d, g3, wM_c _ g2]
        · rw [if_neg (show ¬ nI t.1 = (4 : Int32) from nI_k (b := 4) (by omega) (by decide) d), sgc_n d]
          rfl
      rw [if_neg (nI_ge c (by omega)), gi_nI hj (by decide), key, ← h.1]
      unfold okx rl
      cases due with
      | true =>
        rw [show b01 true = 1 from rfl, M_j44_w, if_pos rfl, if_pos rfl, nI_1, nI_1]
        rcases hcode with ⟨h3, h4⟩ | ⟨h3, h4⟩ | ⟨h3, h4⟩
        · have n40 : ¬ cM (sgc t) = 40 := fun z => by have := c40.mp z; omega
          have npf : ¬ (cM (sgc t) = 45 ∨ cM (sgc t) = 126 ∨ cM (sgc t) = 43) := fun z => by
            have z := cpf.mp z
            rcases h4 with h4 | h4 <;> rw [h4] at z <;> exact absurd z (by decide)
          rw [if_neg n40, if_neg npf, h3, if_pos rfl, if_pos rfl]
          have hop : t.1 = 1 ∨ t.1 = 2 ∨ sgc t = 36 := by
            rcases Nat.lt_or_ge t.1 3 with g | g
            · omega
            · rcases h4 with h4 | h4
              · by_cases f : t.1 = 3
                · rw [itm_3 f] at h3; exact absurd h3 (by decide)
                · have := (sgc_4 hgt (by omega)).1; omega
              · exact Or.inr (Or.inr h4)
          have go := M_operand hM h hg hKR.2.2.1 hKR.1 hk ht 0 (f_M_isExpression_l12 n) tn mma msi mpu mmi mva (b01 pr) (nI o) (cM (sgc t)) rfl hop
          rw [h3, if_pos rfl, nI_1] at go
          have j125 : f_M_isExpression_l12_j125 (f_M_isExpression_l12 n) mnm tn mma mli mlt mna mns mst mco tk tb te tw msi mpu mmi mva (b01 pr) (nI o) 1 (nI j) (cM (sgc t)) = f_M_isExpression_l12_j158 (f_M_isExpression_l12 n) mnm tn mma mli mlt mna mns mst mco tk tb te tw msi mpu mmi mva (b01 pr) (nI o) (nI j) (cM (sgc t)) := by
            unfold f_M_isExpression_l12_j125
            rw [if_neg (show ¬ (1 : Int32) = 0 by decide), gi_nI hj (by decide), gi_nI hj (by decide), nI_clamp (by omega), q1]
            by_cases f2 : t.1 = 2
            · rw [if_pos (show nI t.1 = (2 : Int32) by rw [f2]; rfl)]
            · rw [if_neg (show ¬ nI t.1 = (2 : Int32) from nI_k (b := 2) (by omega) (by decide) f2)]
              by_cases f1 : t.1 = 1
              · rw [if_pos (show nI t.1 = (1 : Int32) by rw [f1]; rfl)]
              · rw [if_neg (show ¬ nI t.1 = (1 : Int32) from nI_k (b := 1) (by omega) (by decide) f1), if_pos (c36.mpr (by omega))]
          rw [j125, go]
          obtain ⟨m1, m2, m3, m4, m5, hp, hA1⟩ := M_put hA (by omega) 0 (itm B nl t).2.1 (itm B nl t).2.2 (-1) 0 rfl
          rw [hp, Option.bind_some]
          obtain ⟨a1, a2, a3, a4, a5, g1, g2⟩ := ih (j + 1) false o _ m1 m2 m3 m4 m5 (by omega) (by omega) (by omega) (by rw [List.length_append, hL]; rfl) hA1
          refine ⟨a1, a2, a3, a4, a5, g1, fun z => ?_⟩
          have := g2 z
          rw [List.append_assoc] at this
          exact this
        · rw [h3, h4, if_neg (show ¬ cM 0 = 40 by decide), if_neg (show ¬ (cM 0 = 45 ∨ cM 0 = 126 ∨ cM 0 = 43) by decide), if_neg (show ¬ (1 : Nat) = 0 by decide), if_neg (show ¬ (1 : Nat) = 40 by decide), if_neg (show ¬ pfx 1 = true by decide)]
          refine ⟨mma, msi, mpu, mmi, mva, ?_, fun z => nomatch z⟩
          unfold f_M_isExpression_l12_j125 f_M_isExpression_l12_j297 f_M_isExpression_l12_j327
          rw [if_neg (show ¬ (1 : Int32) = 0 by decide), if_neg (show ¬ (1 : Int32) = 0 by decide), if_neg (show ¬ (1 : Int32) = 0 by decide), gi_nI hj (by decide), gi_nI hj (by decide), nI_clamp (by omega), q1, if_neg (show ¬ cM 0 = 36 by decide)]
          by_cases f1 : t.1 = 1
          · rw [if_neg (show ¬ nI t.1 = (2 : Int32) by rw [f1]; decide), if_pos (show nI t.1 = (1 : Int32) by rw [f1]; rfl)]
            have go := M_operand hM h hg hKR.2.2.1 hKR.1 hk ht 0 (f_M_isExpression_l12 n) tn mma msi mpu mmi mva (b01 pr) (nI o) (cM (sgc t)) rfl (Or.inl f1)
            rw [h3, if_neg (by decide), h4] at go
            exact go
          · have f3 : t.1 = 3 := by
              rcases Nat.lt_or_ge t.1 3 with g | g
              · rw [itm_2 (by omega)] at h3; exact absurd (show (0 : Nat) = 1 from h3) (by decide)
              · rcases Nat.lt_or_ge t.1 4 with g5 | g5
                · omega
                · have := (sgc_4 hgt (by omega)).1; omega
            rw [if_neg (show ¬ nI t.1 = (2 : Int32) by rw [f3]; decide), if_neg (show ¬ nI t.1 = (1 : Int32) by rw [f3]; decide)]
            rfl
        · rw [h3, if_neg (show ¬ sgc t = 0 by omega), if_neg (show ¬ sgc t = 0 by omega)]
          by_cases d : sgc t = 40
          · rw [if_pos (c40.mpr d), if_pos d, if_pos d]
            obtain ⟨m1, m2, m3, m4, m5, hp, hA1⟩ := M_put hA (by omega) 40 0 (-1) (-1) (cM (sgc t)) (by rw [d])
            rw [hp, Option.bind_some]
            obtain ⟨a1, a2, a3, a4, a5, g1, g2⟩ := ih (j + 1) true (o + 1) _ m1 m2 m3 m4 m5 (by omega) (by omega) (by omega) (by rw [List.length_append, hL]; rfl) hA1
            refine ⟨a1, a2, a3, a4, a5, g1, fun z => ?_⟩
            have := g2 z
            rw [List.append_assoc] at this
            exact this
          · rw [if_neg (fun z => d (c40.mp z)), if_neg d, if_neg d]
            by_cases e : pfx (sgc t) = true
            · rw [if_pos (cpf.mpr e), if_pos e]
              obtain ⟨m1, m2, m3, m4, m5, hp, hA1⟩ := M_put hA (by omega) (1000 + sgc t) 0 (-1) (-1) (1000 + cM (sgc t)) (cpx e)
              rw [hp, Option.bind_some]
              obtain ⟨a1, a2, a3, a4, a5, g1, g2⟩ := ih (j + 1) true o _ m1 m2 m3 m4 m5 (by omega) (by omega) (by omega) (by rw [List.length_append, hL]; rfl) hA1
              refine ⟨a1, a2, a3, a4, a5, g1, fun z => ?_⟩
              have := g2 z
              rw [List.append_assoc] at this
              exact this
            · rw [if_neg (fun z => e (cpf.mp z)), if_neg e]
              refine ⟨mma, msi, mpu, mmi, mva, ?_, fun z => nomatch z⟩
              unfold f_M_isExpression_l12_j125 f_M_isExpression_l12_j297 f_M_isExpression_l12_j327
              have f4 : t.1 = 4 := by
                rcases Nat.lt_or_ge t.1 4 with g | g
                · rw [sgc_n (by omega)] at h4; omega
                · omega
              rw [if_neg (show ¬ (1 : Int32) = 0 by decide), if_neg (show ¬ (1 : Int32) = 0 by decide), if_neg (show ¬ (1 : Int32) = 0 by decide), gi_nI hj (by decide), gi_nI hj (by decide), nI_clamp (by omega), q1, if_neg (show ¬ nI t.1 = (2 : Int32) by rw [f4]; decide), if_neg (show ¬ nI t.1 = (1 : Int32) by rw [f4]; decide), if_neg (fun z => by have := c36.mp z; omega)]
              rfl
      | false =>
        rw [show b01 false = 0 from rfl, M_j44_n, if_neg (show ¬ false = true by decide), if_neg (show ¬ false = true by decide)]
        have bad : sgc t = 0 ∨ sgc t = 36 → rk (sgc t) = 0 := by rintro (z | z) <;> rw [z] <;> decide
        have hx1 : (itm B nl t).1 = 41 ↔ sgc t = 41 := by rcases hcode with ⟨h3, h4⟩ | ⟨h3, h4⟩ | ⟨h3, h4⟩ <;> omega
        have hrk : rk (itm B nl t).1 = rk (sgc t) := by
          rcases hcode with ⟨h3, h4⟩ | ⟨h3, h4⟩ | ⟨h3, h4⟩
          · rw [h3, bad h4]; decide
          · rw [h3, h4]; decide
          · rw [h3]
        have hr7 : rk (sgc t) < 2 ^ 31 := by have := rk_le (sgc t); omega
        unfold f_M_isExpression_l12_j297 f_M_isExpression_l12_j327 f_M_isExpression_l12_j357
        rw [if_pos (show (0 : Int32) = 0 from rfl), if_pos (show (0 : Int32) = 0 from rfl), cst, Option.bind_some, Option.bind_some, nI_1]
        by_cases d : sgc t = 41
        · rw [if_pos (c41.mpr d), if_pos (hx1.mpr d), if_pos (hx1.mpr d)]
          cases o with
          | zero =>
            rw [if_pos (show nI 0 ≤ 0 by decide), if_pos rfl, if_pos (show nI (rk (sgc t)) ≤ 0 by rw [d]; decide)]
            exact ⟨mma, msi, mpu, mmi, mva, rfl, fun z => nomatch z⟩
          | succ o =>
            rw [if_neg (nI_nle (by omega) (by omega)), if_neg (by omega), nI_m1]
            obtain ⟨m1, m2, m3, m4, m5, hp, hA1⟩ := M_put hA (by omega) 41 0 (-1) (-1) (cM (sgc t)) (by rw [d])
            rw [hp, Option.bind_some]
            obtain ⟨a1, a2, a3, a4, a5, g1, g2⟩ := ih (j + 1) false o _ m1 m2 m3 m4 m5 (by omega) (by omega) (by omega) (by rw [List.length_append, hL]; rfl) hA1
            refine ⟨a1, a2, a3, a4, a5, g1, fun z => ?_⟩
            have := g2 z
            rw [List.append_assoc] at this
            exact this
        · rw [if_neg (fun z => d (c41.mp z)), if_neg (fun z => d (hx1.mp z)), if_neg (fun z => d (hx1.mp z)), hrk]
          have step : 1 ≤ rk (sgc t) → ∃ mma' msi' mpu' mmi' mva', ((f_M_put mma msi mpu mmi mva (cM (sgc t)) 0 (-1) (-1)).bind fun o_14 => f_M_isExpression_l12 n mnm tn o_14.1 mli mlt mna mns mst mco tk tb te tw o_14.2.1 o_14.2.2.1 o_14.2.2.2.1 o_14.2.2.2.2 (b01 pr) (nI o) 1 (nI (j + 1))) = some (b01 (okx pr ((ts.map (itm B nl)).drop (j + 1)) true o), mma', msi', mpu', mmi', mva') ∧ (okx pr ((ts.map (itm B nl)).drop (j + 1)) true o = true → AR (L ++ ((itm B nl t).1, sgv) :: rl ((ts.map (itm B nl)).drop (j + 1)) true) mma' msi' mpu' mmi' mva') := by
            intro hr
            have hxs : (itm B nl t).1 = sgc t := by
              rcases hcode with ⟨h3, h4⟩ | ⟨h3, h4⟩ | ⟨h3, h4⟩
              · rw [bad h4] at hr; omega
              · rw [bad (Or.inl h4)] at hr; omega
              · exact h3
            obtain ⟨m1, m2, m3, m4, m5, hp, hA1⟩ := M_put hA (by omega) (sgc t) 0 (-1) (-1) (cM (sgc t)) rfl
            rw [hp, Option.bind_some, hxs]
            obtain ⟨a1, a2, a3, a4, a5, g1, g2⟩ := ih (j + 1) true o _ m1 m2 m3 m4 m5 (by omega) (by omega) (by omega) (by rw [List.length_append, hL]; rfl) hA1
            refine ⟨a1, a2, a3, a4, a5, g1, fun z => ?_⟩
            have := g2 z
            rw [List.append_assoc] at this
            exact this
          by_cases e0 : rk (sgc t) = 0
          · rw [if_pos (show nI (rk (sgc t)) ≤ 0 by rw [e0]; decide), e0, if_neg (show ¬ (if pr = true ∧ o = 0 then 6 else 1) ≤ 0 by split <;> omega)]
            exact ⟨mma, msi, mpu, mmi, mva, rfl, fun z => nomatch z⟩
          · rw [if_neg (nI_nle (by omega) (by omega))]
            cases pr with
            | false =>
              rw [if_pos (show b01 false = 0 from rfl), if_neg (show ¬ (false = true ∧ o = 0) by simp), if_pos (show 1 ≤ rk (sgc t) by omega)]
              exact step (by omega)
            | true =>
              rw [if_neg (show ¬ b01 true = 0 by decide)]
              by_cases f : o = 0
              · rw [if_neg (show ¬ (0 : Int32) < nI o by rw [f]; decide), if_pos (show true = true ∧ o = 0 from ⟨rfl, f⟩)]
                by_cases g : rk (sgc t) = 6
                · rw [if_pos (show nI (rk (sgc t)) = 6 by rw [g]; rfl), if_pos (show 6 ≤ rk (sgc t) by omega)]
                  exact step (by omega)
                · rw [if_neg (show ¬ nI (rk (sgc t)) = 6 from nI_k (b := 6) hr7 (by decide) g), if_neg (show ¬ 6 ≤ rk (sgc t) by have := rk_le (sgc t); omega)]
                  exact ⟨mma, msi, mpu, mmi, mva, rfl, fun z => nomatch z⟩
              · rw [if_pos (show (0 : Int32) < nI o from nI_lt (a := 0) (by omega) (by omega)), if_neg (show ¬ (true = true ∧ o = 0) from fun z => f z.2), if_pos (show 1 ≤ rk (sgc t) by omega)]
                exact step (by omega)
    · rw [drop_nil _ c, if_pos (nI_le (by omega) (by omega))]
      unfold okx rl
      rw [List.append_nil]
      cases due with
      | true => rw [if_neg (show ¬ b01 true = 0 by decide)]; exact ⟨mma, msi, mpu, mmi, mva, rfl, fun _ => hA⟩
      | false =>
        rw [if_pos (show b01 false = 0 from rfl)]
        by_cases e : o = 0
        · rw [if_pos (show nI o = 0 by rw [e]; rfl), e]; exact ⟨mma, msi, mpu, mmi, mva, rfl, fun _ => hA⟩
        · rw [if_neg (show ¬ nI o = 0 from nI_ne0 (by omega) (by omega))]
          have : (!false && o == 0) = false := by simpa using e
          rw [this]; exact ⟨mma, msi, mpu, mmi, mva, rfl, fun _ => hA⟩
theorem AR.nil (msi mpu mmi : Nat → Int32) (mva : Nat → Int64) : AR [] 0 msi mpu mmi mva := ⟨rfl, fun j x h => by simp at h⟩
theorem M_isExpr (hM : MR N B mle mli) (h : TM ts tn tk tb te tw) (hg : TG N ts) {kn : Int32} {kq : Nat → Option Nat} {ns : List NmR} (hKR : KR nl kn kq ns) (hk : KM nl mnm msp mlt mna mns mst mco) (pr : Bool) (mma : Int32) (msi mpu mmi : Nat → Int32) (mva : Nat → Int64) :
    ∃ mma' msi' mpu' mmi' mva', f_M_isExpression mnm tn mma mli mlt mna mns mst mco tk tb te tw msi mpu mmi mva (b01 pr) = some (b01 (okx pr (ts.map (itm B nl)) true 0), mma', msi', mpu', mmi', mva') ∧ (okx pr (ts.map (itm B nl)) true 0 = true → AR (rl (ts.map (itm B nl)) true) mma' msi' mpu' mmi' mva') := by
  have hN := hg.1
  have hl := hg.2.1
  unfold f_M_isExpression
  exact M_isExpr_l hM h hg hKR hk pr FU 0 true 0 [] 0 msi mpu mmi mva (by omega) (by unfold FU; omega) (by omega) rfl (AR.nil msi mpu mmi mva)
theorem M_known_l (hM : MR N B mle mli) (h : TM ts tn tk tb te tw) (hg : TG N ts) (hnl : ∀ m ∈ nl, NmG m) (hl256 : nl.length ≤ 256) (hk : KM nl mnm msp mlt mna mns mst mco) :
    ∀ n j (b : Bool), j ≤ ts.length → ts.length - j < n → f_M_isKnown_l4 n mnm tn mli mlt mna mns tk tb te (b01 b) (nI j) = some (b01 (b && (ts.drop j).all (knw B nl))) := by
  have hN := hg.1
  have hl := hg.2.1
  intro n
  induction n with
  | zero => intro j b h1 h2; omega
  | succ n ih =>
    intro j b h1 h2
    unfold f_M_isKnown_l4
    rw [h.1]
    by_cases c : j < ts.length
    · have hs := fun b => ih (j + 1) b (by omega) (by omega)
      rw [List.drop_eq_getElem_cons c, List.all_cons]
      have ht := List.getElem?_eq_getElem c
      generalize ts[j] = t at ht ⊢
      have hgt := hg.2.2 t (List.mem_of_getElem? ht)
      have hkk := hgt.k
      obtain ⟨q1, q2, q3, q4⟩ := h.2 j t ht
      have hj : j < 1100 := by omega
      rw [if_neg (nI_ge c (by omega)), ← h.1, nI_1]
      cases b with
      | false =>
        rw [if_pos (show b01 false = 0 from rfl)]
        have := hs false
        rw [Bool.false_and] at this ⊢
        exact this
      | true =>
        rw [if_neg (show ¬ b01 true = 0 by decide), gi_nI hj (by decide), nI_clamp (by omega), q1]
        have h0 := hs false
        have h1 := hs true
        rw [Bool.false_and] at h0
        rw [Bool.true_and] at h1 ⊢
        by_cases d : t.1 = 1
        · rw [if_pos (show nI t.1 = (1 : Int32) by rw [d]; rfl), M_find hM hnl hl256 hk hj q2 q3 (Nat.le_of_lt hgt.1) hgt.2.1, Option.bind_some]
          cases hf : fnd B t.2.1 (t.2.2.1 - t.2.1) nl with
          | none =>
            have : knw B nl t = false := by unfold knw; rw [hf, d]; rfl
            rw [this, Bool.false_and]
            dsimp only
            rw [if_pos (show (-1 : Int32) < 0 by decide)]
            exact h0
          | some i =>
            have : knw B nl t = true := by unfold knw; rw [hf]; simp
            rw [this, Bool.true_and]
            dsimp only
            obtain ⟨m, hm⟩ := fnf_lt _ _ _ _ _ _ _ hf
            have hi : i < nl.length := (List.getElem?_eq_some_iff.mp hm).1
            rw [if_neg (nI_pos (by omega))]
            exact h1
        · rw [if_neg (show ¬ nI t.1 = (1 : Int32) from nI_k (b := 1) (by omega) (by decide) d)]
          have : knw B nl t = true := by unfold knw; simp [d]
          rw [this, Bool.true_and]
          exact h1
    · rw [List.drop_eq_nil_of_le (by omega), if_pos (nI_le (by omega) (by omega))]
      cases b <;> rfl
theorem M_known (hM : MR N B mle mli) (h : TM ts tn tk tb te tw) (hg : TG N ts) (hnl : ∀ m ∈ nl, NmG m) (hl256 : nl.length ≤ 256) (hk : KM nl mnm msp mlt mna mns mst mco) :
    f_M_isKnown mnm tn mli mlt mna mns tk tb te = some (b01 (ts.all (knw B nl))) := by
  have hN := hg.1
  have hl := hg.2.1
  unfold f_M_isKnown
  exact M_known_l hM h hg hnl hl256 hk FU 0 true (by omega) (by unfold FU; omega)
end
