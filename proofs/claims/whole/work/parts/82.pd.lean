/-! EXPRESSIONS: the tokens as items: code (0 an operand, 1 nothing that may stand in an expression, else the sign), constant, place -/
abbrev It : Type := Nat × Int64 × Int32
def sgc (t : Tk) : Nat := if t.1 = 4 then t.2.2.2.toInt32.toNatClampNeg else 0
def itm (B : Nat → Nat) (nl : List Nm) (t : Tk) : It :=
  if t.1 = 1 then (match fnd B t.2.1 (t.2.2.1 - t.2.1) nl with
    | none => (0, 0, -1)
    | some j => match nl[j]? with
      | none => (0, 0, -1)
      | some m => if m.2.2.1 = -1 then (1, 0, -1) else (0, m.2.2.2, whr m.2.2.1))
  else if t.1 = 2 then (0, t.2.2.2, -1) else if t.1 = 3 then (1, 0, -1) else if sgc t = 36 then (0, 0, -2) else (sgc t, 0, -1)
def rk (c : Nat) : Nat := if c = 37 ∨ c = 42 ∨ c = 47 then 6 else if c = 43 ∨ c = 45 then 5 else if c = 60 ∨ c = 62 then 4 else if c = 38 then 3 else if c = 94 then 2 else if c = 124 then 1 else 0
theorem rk_le (c : Nat) : rk c ≤ 6 := by
  unfold rk
  (repeat' split) <;> omega
def pfx (c : Nat) : Bool := c == 45 || c == 126 || c == 43
/-- what an expression is -/
def okx (pr : Bool) : List It → Bool → Nat → Bool
  | [], due, o => !due && o == 0
  | x :: r, due, o => if due = true then (if x.1 = 0 then okx pr r false o else if x.1 = 40 then okx pr r true (o + 1) else if pfx x.1 = true then okx pr r true o else false)
    else if x.1 = 41 then (if o = 0 then false else okx pr r false (o - 1)) else if (if pr = true ∧ o = 0 then 6 else 1) ≤ rk x.1 then okx pr r true o else false
set_option maxRecDepth 20000 in
theorem X_rank_k : ∀ c, c < 256 → f_X_rankOf (nI c) = some (nI (rk c)) := by decide +kernel
set_option maxRecDepth 20000 in
theorem X_prefix_k : ∀ c, c < 256 → f_X_isPrefix (nI c) = some (b01 (pfx c)) := by decide +kernel
set_option maxRecDepth 20000 in
theorem sg_back : ∀ c, c < 256 → (nI c).toInt64.toInt32 = nI c := by decide +kernel
set_option maxRecDepth 20000 in
theorem sgk_ge : ∀ c, c < 256 → (sgk c = true ∨ c = 60 ∨ c = 62) → 36 ≤ c := by decide +kernel
theorem sgc_4 {N : Nat} {t : Tk} (h : GT N t) (h4 : t.1 = 4) : 36 ≤ sgc t ∧ sgc t < 256 ∧ t.2.2.2 = (nI (sgc t)).toInt64 ∧ (sgk (sgc t) = true ∨ sgc t = 60 ∨ sgc t = 62) := by
  rcases h.2.2 with ⟨h, _⟩ | h | ⟨h, _⟩ | ⟨h, c, h1, h2, h3⟩
  · omega
  · omega
  · omega
  · have : sgc t = c := by
      unfold sgc
      rw [if_pos h4, h1, sg_back c h2, nI_clamp (by omega)]
    rw [this]
    exact ⟨sgk_ge c h2 h3, h2, h1, h3⟩
theorem sgc_n {t : Tk} (h : t.1 ≠ 4) : sgc t = 0 := if_neg h
theorem sgc_lt {N : Nat} {t : Tk} (h : GT N t) : sgc t < 256 := by
  by_cases c : t.1 = 4
  · exact (sgc_4 h c).2.1
  · rw [sgc_n c]; omega
theorem nI_m1 (n : Nat) : nI (n + 1) + (-1) = nI n := by
  rw [nI_succ, Int32.add_assoc, show (1 : Int32) + -1 = 0 from by decide, Int32.add_zero]
def mng (B : Nat → Nat) (nl : List Nm) (kq : Nat → Option Nat) (t : Tk) : Option Nat := if t.1 = 1 then (fnd B t.2.1 (t.2.2.1 - t.2.1) nl).bind kq else none
/-- tokens of a line: all good, no more than its bytes -/
def TG (N : Nat) (ts : List Tk) : Prop := N ≤ 1024 ∧ ts.length ≤ N ∧ ∀ t ∈ ts, GT N t
section
variable {N : Nat} {B : Nat → Nat} {ts : List Tk} {tn : Int32} {tk tb te : Nat → Int32} {tw : Nat → Int64}
theorem T_has (h : TR ts tn tk tb te tw) (hg : TG N ts) {k : Nat} (hk : k < 2 ^ 31) : f_T_has tn (nI k) = some (b01 (decide (k < ts.length))) := by
  have hN := hg.1
  have hl := hg.2.1
  unfold f_T_has
  rw [if_neg (nI_pos hk), h.1]
  by_cases c : k < ts.length
  · rw [if_neg (nI_ge c (by omega))]; simp [c, b01]
  · rw [if_pos (nI_le (by omega) hk)]; simp [c, b01]
theorem T_kind (h : TR ts tn tk tb te tw) (hg : TG N ts) {k : Nat} {t : Tk} (hk : ts[k]? = some t) : f_T_kindOf tn tk (nI k) = some (nI t.1) := by
  have hN := hg.1
  have hl := hg.2.1
  have c : k < ts.length := (List.getElem?_eq_some_iff.mp hk).1
  unfold f_T_kindOf
  rw [T_has h hg (by omega), Option.bind_some, if_neg (b01_ne (by simpa using c)), gi_nI (by omega) (by decide), nI_clamp (by omega), (h.2 k t hk).1]
theorem T_begin (h : TR ts tn tk tb te tw) (hg : TG N ts) {k : Nat} {t : Tk} (hk : ts[k]? = some t) : f_T_beginOf tn tb (nI k) = some (nI t.2.1) := by
  have hN := hg.1
  have hl := hg.2.1
  have c : k < ts.length := (List.getElem?_eq_some_iff.mp hk).1
  unfold f_T_beginOf
  rw [T_has h hg (by omega), Option.bind_some, if_neg (b01_ne (by simpa using c)), gi_nI (by omega) (by decide), nI_clamp (by omega), (h.2 k t hk).2.1]
theorem T_end (h : TR ts tn tk tb te tw) (hg : TG N ts) {k : Nat} {t : Tk} (hk : ts[k]? = some t) : f_T_endOf tn te (nI k) = some (nI t.2.2.1) := by
  have hN := hg.1
  have hl := hg.2.1
  have c : k < ts.length := (List.getElem?_eq_some_iff.mp hk).1
  unfold f_T_endOf
  rw [T_has h hg (by omega), Option.bind_some, if_neg (b01_ne (by simpa using c)), gi_nI (by omega) (by decide), nI_clamp (by omega), (h.2 k t hk).2.2.1]
theorem T_worth (h : TR ts tn tk tb te tw) (hg : TG N ts) {k : Nat} {t : Tk} (hk : ts[k]? = some t) : f_T_worthOf tn tw (nI k) = some t.2.2.2 := by
  have hN := hg.1
  have hl := hg.2.1
  have c : k < ts.length := (List.getElem?_eq_some_iff.mp hk).1
  unfold f_T_worthOf
  rw [T_has h hg (by omega), Option.bind_some, if_neg (b01_ne (by simpa using c)), gi_nI (by omega) (by decide), nI_clamp (by omega), (h.2 k t hk).2.2.2]
theorem T_sign (h : TR ts tn tk tb te tw) (hg : TG N ts) {k : Nat} {t : Tk} (hk : ts[k]? = some t) : f_T_signOf tn tk tw (nI k) = some (nI (sgc t)) := by
  have hN := hg.1
  have hl := hg.2.1
  have ht := hg.2.2 t (List.mem_of_getElem? hk)
  unfold f_T_signOf
  rw [T_kind h hg hk, Option.bind_some]
  by_cases c : t.1 = 4
  · rw [if_pos (show nI t.1 = (4 : Int32) by rw [c]; rfl), T_worth h hg hk, Option.bind_some]
    obtain ⟨h1, h2, h3, h4⟩ := sgc_4 ht c
    rw [h3, sg_back _ h2]
  · rw [if_neg (show ¬ nI t.1 = (4 : Int32) from fun z => c ((nI_eq (b := 4) (by have := ht.k; omega) (by decide)).mp z)), sgc_n c]
    rfl
theorem X_mean {xm : Nat → Option Nat} {k : Nat} (hk : k < 1024) : f_X_meaningOf xm (nI k) = some (xm k) := by
  unfold f_X_meaningOf
  rw [if_neg (nI_pos (by omega)), if_neg (show ¬ (1024 : Int32) ≤ nI k from nI_ge (b := 1024) hk (by decide)), gi_nI hk (by decide), nI_clamp (by omega)]
  cases xm k <;> rfl
theorem X_lookUp_l {ln : Int32} {lb : Nat → Int32} (hL : LR N B ln lb) (h : TR ts tn tk tb te tw) (hg : TG N ts) {nl : List Nm} {kn : Int32} {kq : Nat → Option Nat} {ns : List NmR} (hk : KR nl kn kq ns) :
    ∀ n k xm, k ≤ ts.length → ts.length - k < n → (∀ j t, j < k → ts[j]? = some t → xm j = mng B nl kq t) → ∃ xm', f_X_lookUpNames_l3 n xm ln lb tn tk tb te kn kq ns (nI k) = some xm' ∧ ∀ j t, ts[j]? = some t → xm' j = mng B nl kq t := by
  have hN := hg.1
  have hl := hg.2.1
  intro n
  induction n with
  | zero => intro k xm h1 h2; omega
  | succ n ih =>
    intro k xm h1 h2 hx
    unfold f_X_lookUpNames_l3
    rw [show f_T_size tn = some tn from rfl, Option.bind_some, h.1]
    by_cases c : k < ts.length
    · have ht := List.getElem?_eq_getElem c
      generalize ts[k] = t at ht
      have hgt := hg.2.2 t (List.mem_of_getElem? ht)
      rw [if_neg (nI_ge c (by omega)), if_neg (show ¬ (1024 : Int32) ≤ nI k from nI_ge (b := 1024) (by omega) (by decide)), ← h.1, T_kind h hg ht, Option.bind_some, nI_1, nI_clamp (show k < 2 ^ 31 by omega)]
      have step : ∀ v : Option Nat, v = mng B nl kq t → ∀ j t', j < k + 1 → ts[j]? = some t' → va_up xm k v j = mng B nl kq t' := by
        intro v hv j t' hj ht'
        by_cases d : j = k
        · rw [d] at ht' ⊢
          rw [show va_up xm k v k = v from if_pos rfl, hv]
          rw [ht] at ht'
          rw [Option.some.inj ht']
        · rw [show va_up xm k v j = xm j from if_neg d]
          exact hx j t' (by omega) ht'
      by_cases d : t.1 = 1
      · rw [if_pos (show nI t.1 = (1 : Int32) by rw [d]; rfl), T_begin h hg ht, Option.bind_some, T_end h hg ht, Option.bind_some, K_find hL hk (Nat.le_of_lt hgt.1) hgt.2.1, Option.bind_some]
        have hv : (fnd B t.2.1 (t.2.2.1 - t.2.1) nl).bind kq = mng B nl kq t := by unfold mng; rw [if_pos d]
        rw [hv]
        cases hz : mng B nl kq t with
        | none =>
          rw [oc_none, gi_nI (by omega) (by decide)]
          exact ih (k + 1) _ (by omega) (by omega) (step none hz.symm)
        | some z =>
          rw [oc_some]
          have hr : ∃ r, nsg ns z = some r := by
            rw [← hv] at hz
            cases hf : fnd B t.2.1 (t.2.2.1 - t.2.1) nl with
            | none => rw [hf] at hz; cases hz
            | some j =>
              rw [hf] at hz
              obtain ⟨m, hm⟩ := fnf_lt _ _ _ _ _ _ _ hf
              obtain ⟨z', r, h1, h2, h3⟩ := hk.2.2.2 j m hm
              have hz : kq j = some z := hz
              rw [h1] at hz
              rw [← Option.some.inj hz]
              exact ⟨r, h2⟩
          obtain ⟨r, hr⟩ := hr
          rw [hr, Option.bind_some, gi_nI (by omega) (by decide)]
          exact ih (k + 1) _ (by omega) (by omega) (step (some z) hz.symm)
      · rw [if_neg (show ¬ nI t.1 = (1 : Int32) from fun z => d ((nI_eq (b := 1) (by have := hgt.k; omega) (by decide)).mp z)), gi_nI (by omega) (by decide)]
        exact ih (k + 1) _ (by omega) (by omega) (step none (by unfold mng; rw [if_neg d]))
    · rw [if_pos (nI_le (by omega) (by omega))]
      exact ⟨xm, rfl, fun j t ht => hx j t (by have := (List.getElem?_eq_some_iff.mp ht).1; omega) ht⟩
theorem X_lookUp {ln : Int32} {lb : Nat → Int32} (hL : LR N B ln lb) (h : TR ts tn tk tb te tw) (hg : TG N ts) {nl : List Nm} {kn : Int32} {kq : Nat → Option Nat} {ns : List NmR} (hk : KR nl kn kq ns) (xm : Nat → Option Nat) :
    ∃ xm', f_X_lookUpNames xm ln lb tn tk tb te kn kq ns = some xm' ∧ ∀ j t, ts[j]? = some t → xm' j = mng B nl kq t := by
  have hN := hg.1
  have hl := hg.2.1
  unfold f_X_lookUpNames
  exact X_lookUp_l hL h hg hk FU 0 xm (by omega) (by unfold FU; omega) (fun j t hj => by omega)
/-- what a name's meaning says -/
theorem mng_nm {nl : List Nm} {kn : Int32} {kq : Nat → Option Nat} {ns : List NmR} (hk : KR nl kn kq ns) (t : Tk) : (mng B nl kq t = none ∧ (t.1 = 1 → fnd B t.2.1 (t.2.2.1 - t.2.1) nl = none ∧ itm B nl t = (0, 0, -1))) ∨ ∃ z r m j, mng B nl kq t = some z ∧ nsg ns z = some r ∧ NR r m ∧ t.1 = 1 ∧ fnd B t.2.1 (t.2.2.1 - t.2.1) nl = some j ∧ nl[j]? = some m ∧ itm B nl t = if m.2.2.1 = -1 then (1, 0, -1) else (0, m.2.2.2, whr m.2.2.1) := by
  by_cases c : t.1 = 1
  · cases hf : fnd B t.2.1 (t.2.2.1 - t.2.1) nl with
    | none =>
      refine Or.inl ⟨by unfold mng; rw [if_pos c, hf]; rfl, fun _ => ⟨rfl, ?_⟩⟩
      unfold itm
      rw [if_pos c, hf]
    | some j =>
      obtain ⟨m, hm⟩ := fnf_lt _ _ _ _ _ _ _ hf
      obtain ⟨z, r, h1, h2, h3⟩ := hk.2.2.2 j m hm
      refine Or.inr ⟨z, r, m, j, by unfold mng; rw [if_pos c, hf]; exact h1, h2, h3, c, rfl, hm, ?_⟩
      unfold itm
      rw [if_pos c, hf]
      dsimp only
      rw [hm]
  · exact Or.inl ⟨by unfold mng; rw [if_neg c], fun z => absurd z c⟩
theorem itm_sg {N : Nat} {nl : List Nm} {t : Tk} (h : GT N t) (h4 : t.1 = 4) : itm B nl t = if sgc t = 36 then (0, 0, -2) else (sgc t, 0, -1) := by
  unfold itm
  rw [if_neg (by omega), if_neg (by omega), if_neg (by omega)]
theorem itm_2 {nl : List Nm} {t : Tk} (h4 : t.1 = 2) : itm B nl t = (0, t.2.2.2, -1) := by
  unfold itm
  rw [if_neg (by omega), if_pos h4]
theorem itm_3 {nl : List Nm} {t : Tk} (h4 : t.1 = 3) : itm B nl t = (1, 0, -1) := by
  unfold itm
  rw [if_neg (by omega), if_neg (by omega), if_pos h4]
theorem nI_k {a : Nat} (ha : a < 2 ^ 31) {b : Nat} (hb : b < 2 ^ 31) (h : a ≠ b) : ¬ nI a = nI b := fun z => h ((nI_eq ha hb).mp z)
theorem X_isOperand (h : TR ts tn tk tb te tw) (hg : TG N ts) {nl : List Nm} {kn : Int32} {kq : Nat → Option Nat} {ns : List NmR} (hk : KR nl kn kq ns) {xm : Nat → Option Nat} (hx : ∀ j t, ts[j]? = some t → xm j = mng B nl kq t) {k : Nat} {t : Tk} (ht : ts[k]? = some t) :
    f_X_isOperand xm tn tk tw ns (nI k) = some (b01 ((itm B nl t).1 == 0)) := by
  have hN := hg.1
  have hl := hg.2.1
  have c : k < ts.length := (List.getElem?_eq_some_iff.mp ht).1
  have hgt := hg.2.2 t (List.mem_of_getElem? ht)
  have hkk := hgt.k
  unfold f_X_isOperand
  rw [T_kind h hg ht, Option.bind_some]
  by_cases d : t.1 = 1
  · rw [if_pos (show nI t.1 = (1 : Int32) by rw [d]; rfl), X_mean (by omega), Option.bind_some, hx k t ht]
    rcases mng_nm (B := B) hk t with ⟨h1, h2⟩ | ⟨z, r, m, j, h1, h2, h3, h4, h5, h6, h7⟩
    · rw [h1, oc_none, (h2 d).2]; rfl
    · rw [h1, oc_some, h2, Option.bind_some, h3.2.2.1, h7]
      by_cases e : m.2.2.1 = -1
      · rw [if_pos e, if_pos e, if_neg (by decide)]; rfl
      · rw [if_neg e, if_neg e, if_pos rfl]; rfl
  · rw [if_neg (show ¬ nI t.1 = (1 : Int32) from nI_k (b := 1) (by omega) (by decide) d)]
    by_cases e : t.1 = 2
    · rw [if_pos (show nI t.1 = (2 : Int32) by rw [e]; rfl), itm_2 e]; rfl
    · rw [if_neg (show ¬ nI t.1 = (2 : Int32) from nI_k (b := 2) (by omega) (by decide) e), T_sign h hg ht, Option.bind_some]
      by_cases f : t.1 = 3
      · rw [sgc_n (by omega), itm_3 f, if_neg (by decide)]; rfl
      · have f4 : t.1 = 4 := by omega
        rw [itm_sg hgt f4]
        obtain ⟨g1, g2, g3, g4⟩ := sgc_4 hgt f4
        by_cases g : sgc t = 36
        · rw [if_pos (show nI (sgc t) = (36 : Int32) by rw [g]; rfl), if_pos g]; rfl
        · rw [if_neg (show ¬ nI (sgc t) = (36 : Int32) from nI_k (b := 36) (by omega) (by decide) g), if_neg g]
          have : ((sgc t, (0 : Int64), (-1 : Int32)).1 == 0) = false := by simp; omega
          rw [this]; rfl
/-- the sign's code, where the item is no operand -/
theorem itm_code {nl : List Nm} {kn : Int32} {kq : Nat → Option Nat} {ns : List NmR} (hk : KR nl kn kq ns) {t : Tk} (h : GT N t) : (itm B nl t).1 = 0 ∧ (sgc t = 0 ∨ sgc t = 36) ∨ (itm B nl t).1 = 1 ∧ sgc t = 0 ∨ (itm B nl t).1 = sgc t ∧ 36 < sgc t := by
  have hkk := h.k
  by_cases d : t.1 = 1
  · rcases mng_nm (B := B) hk t with ⟨h1, h2⟩ | ⟨z, r, m, j, h1, h2, h3, h4, h5, h6, h7⟩
    · exact Or.inl ⟨by rw [(h2 d).2], Or.inl (sgc_n (by omega))⟩
    · rw [h7]
      by_cases e : m.2.2.1 = -1
      · rw [if_pos e]; exact Or.inr (Or.inl ⟨rfl, sgc_n (by omega)⟩)
      · rw [if_neg e]; exact Or.inl ⟨rfl, Or.inl (sgc_n (by omega))⟩
  · by_cases e : t.1 = 2
    · rw [itm_2 e]; exact Or.inl ⟨rfl, Or.inl (sgc_n (by omega))⟩
    · by_cases f : t.1 = 3
      · rw [itm_3 f]; exact Or.inr (Or.inl ⟨rfl, sgc_n (by omega)⟩)
      · have f4 : t.1 = 4 := by omega
        rw [itm_sg h f4]
        obtain ⟨g1, g2, g3, g4⟩ := sgc_4 h f4
        by_cases g : sgc t = 36
        · rw [if_pos g]; exact Or.inl ⟨rfl, Or.inr g⟩
        · rw [if_neg g]; exact Or.inr (Or.inr ⟨rfl, by omega⟩)
theorem drop_map {α β : Type} (f : α → β) {l : List α} {k : Nat} (h : k < l.length) : (l.map f).drop k = f l[k] :: (l.map f).drop (k + 1) := by
  rw [List.drop_eq_getElem_cons (by rw [List.length_map]; exact h), List.getElem_map]
theorem drop_nil {α β : Type} (f : α → β) {l : List α} {k : Nat} (h : ¬ k < l.length) : (l.map f).drop k = [] := List.drop_eq_nil_of_le (by rw [List.length_map]; omega)
theorem X_isExpr_l (h : TR ts tn tk tb te tw) (hg : TG N ts) {nl : List Nm} {kn : Int32} {kq : Nat → Option Nat} {ns : List NmR} (hk : KR nl kn kq ns) {xm : Nat → Option Nat} (hx : ∀ j t, ts[j]? = some t → xm j = mng B nl kq t) (pr : Bool) :
    ∀ n k (due : Bool) o, k ≤ ts.length → ts.length - k < n → o ≤ k → f_X_isExpression_l8 n xm tn tk tw ns (b01 pr) (b01 due) (nI o) (nI k) = some (b01 (okx pr ((ts.map (itm B nl)).drop k) due o)) := by
  have hN := hg.1
  have hl := hg.2.1
  intro n
  induction n with
  | zero => intro k due o h1 h2; omega
  | succ n ih =>
    intro k due o h1 h2 ho
    unfold f_X_isExpression_l8
    rw [show f_T_size tn = some tn from rfl, Option.bind_some, h.1]
    by_cases c : k < ts.length
    · rw [drop_map _ c]
      have ht := List.getElem?_eq_getElem c
      generalize ts[k] = t at ht ⊢
      have hgt := hg.2.2 t (List.mem_of_getElem? ht)
      have hsl := sgc_lt hgt
      have hcode := itm_code (B := B) hk hgt
      rw [if_neg (nI_ge c (by omega)), ← h.1, T_sign h hg ht, Option.bind_some, X_isOperand h hg hk hx ht, Option.bind_some, X_prefix_k _ hsl, X_rank_k _ hsl, nI_1, nI_1]
      simp only [Option.bind_some]
      unfold okx
      generalize itm B nl t = x at hcode ⊢
      have e40 : nI (sgc t) = (40 : Int32) ↔ sgc t = 40 := nI_lit hsl (by decide)
      have e41 : nI (sgc t) = (41 : Int32) ↔ sgc t = 41 := nI_lit hsl (by decide)
      cases due with
      | true =>
        rw [if_neg (show ¬ b01 true = 0 by decide), if_neg (show ¬ (1 : Int32) = 0 by decide), if_pos (show True from trivial), if_pos (show true = true from rfl), Int32.add_zero]
        rcases hcode with ⟨h3, h4⟩ | ⟨h3, h4⟩ | ⟨h3, h4⟩
        · rw [h3, if_neg (show ¬ b01 (0 == 0) = 0 by decide), if_pos rfl, if_neg (show ¬ nI (sgc t) = 40 from fun z => by have := e40.mp z; omega)]
          exact ih (k + 1) false o (by omega) (by omega) (by omega)
        · rw [h3, h4, if_pos (show b01 (1 == 0) = 0 by decide), if_neg (show ¬ nI 0 = 40 by decide), if_pos (show b01 (pfx 0) = 0 by decide), if_neg (by decide), if_neg (by decide), if_neg (by decide)]; rfl
        · rw [h3, if_pos (show b01 (sgc t == 0) = 0 from b01_eq (by simp; omega)), if_neg (show ¬ sgc t = 0 by omega)]
          by_cases d : sgc t = 40
          · rw [if_pos (e40.mpr d), if_pos (e40.mpr d), if_pos d]
            exact ih (k + 1) true (o + 1) (by omega) (by omega) (by omega)
          · rw [if_neg (fun z => d (e40.mp z)), if_neg (fun z => d (e40.mp z)), if_neg d]
            by_cases e : pfx (sgc t) = true
            · rw [if_neg (b01_ne e), if_pos e]
              exact ih (k + 1) true o (by omega) (by omega) (by omega)
            · rw [if_pos (b01_eq e), if_neg e]; rfl
      | false =>
        rw [if_pos (show b01 false = 0 from rfl), if_neg (show ¬ false = true by decide)]
        have bad : sgc t = 0 ∨ sgc t = 36 → rk (sgc t) = 0 := by rintro (z | z) <;> rw [z] <;> decide
        have hx1 : x.1 = 41 ↔ sgc t = 41 := by rcases hcode with ⟨h3, h4⟩ | ⟨h3, h4⟩ | ⟨h3, h4⟩ <;> omega
        have hrk : rk x.1 = rk (sgc t) := by
          rcases hcode with ⟨h3, h4⟩ | ⟨h3, h4⟩ | ⟨h3, h4⟩
          · rw [h3, bad h4]; decide
          · rw [h3, h4]; decide
          · rw [h3]
        by_cases d : sgc t = 41
        · rw [if_pos (e41.mpr d), if_pos (hx1.mpr d)]
          cases o with
          | zero => rw [if_neg (show ¬ (0 : Int32) ≤ nI 0 + -1 by decide), if_pos rfl]; rfl
          | succ o =>
            rw [nI_m1, if_pos (nI_pos' (by omega)), if_neg (by omega)]
            exact ih (k + 1) false o (by omega) (by omega) (by omega)
        · rw [if_neg (fun z => d (e41.mp z)), if_neg (fun z => d (hx1.mp z)), hrk]
          have hr7 : rk (sgc t) < 2 ^ 31 := by have := rk_le (sgc t); omega
          have hstep := ih (k + 1) true o (by omega) (by omega) (by omega)
          have g1 : (1 : Int32) ≤ nI (rk (sgc t)) ↔ 1 ≤ rk (sgc t) := nI_leI (a := 1) (by decide) hr7
          have g6 : (6 : Int32) ≤ nI (rk (sgc t)) ↔ 6 ≤ rk (sgc t) := nI_leI (a := 6) (by decide) hr7
          have low : (if (1 : Int32) ≤ nI (rk (sgc t)) then f_X_isExpression_l8 n xm tn tk tw ns (b01 pr) 1 (nI o) (nI (k + 1)) else some 0) = some (b01 (if 1 ≤ rk (sgc t) then okx pr ((ts.map (itm B nl)).drop (k + 1)) true o else false)) := by
            by_cases e : 1 ≤ rk (sgc t)
            · rw [if_pos (g1.mpr e), if_pos e]; exact hstep
            · rw [if_neg (fun z => e (g1.mp z)), if_neg e]; rfl
          have high : (if (6 : Int32) ≤ nI (rk (sgc t)) then f_X_isExpression_l8 n xm tn tk tw ns (b01 pr) 1 (nI o) (nI (k + 1)) else some 0) = some (b01 (if 6 ≤ rk (sgc t) then okx pr ((ts.map (itm B nl)).drop (k + 1)) true o else false)) := by
            by_cases e : 6 ≤ rk (sgc t)
            · rw [if_pos (g6.mpr e), if_pos e]; exact hstep
            · rw [if_neg (fun z => e (g6.mp z)), if_neg e]; rfl
          cases pr with
          | false => rw [if_pos (show b01 false = 0 from rfl), if_neg (show ¬ (false = true ∧ o = 0) by simp)]; exact low
          | true =>
            rw [if_neg (show ¬ b01 true = 0 by decide)]
            by_cases e : o = 0
            · rw [if_pos (show nI o = 0 by rw [e]; rfl), if_pos (show true = true ∧ o = 0 from ⟨rfl, e⟩)]; exact high
            · rw [if_neg (show ¬ nI o = 0 from nI_ne0 (by omega) (by omega)), if_neg (show ¬ (true = true ∧ o = 0) from fun z => e z.2)]; exact low
    · rw [drop_nil _ c, if_pos (nI_le (by omega) (by omega))]
      unfold okx
      cases due with
      | true => rw [if_neg (show ¬ b01 true = 0 by decide)]; rfl
      | false =>
        rw [if_pos (show b01 false = 0 from rfl)]
        by_cases e : o = 0
        · rw [if_pos (show nI o = 0 by rw [e]; rfl), e]; rfl
        · rw [if_neg (show ¬ nI o = 0 from nI_ne0 (by omega) (by omega))]
          have : (!false && o == 0) = false := by simpa using e
          rw [this]; rfl
theorem X_isExpr (h : TR ts tn tk tb te tw) (hg : TG N ts) {nl : List Nm} {kn : Int32} {kq : Nat → Option Nat} {ns : List NmR} (hk : KR nl kn kq ns) {xm : Nat → Option Nat} (hx : ∀ j t, ts[j]? = some t → xm j = mng B nl kq t) (pr : Bool) :
    f_X_isExpression xm tn tk tw ns (b01 pr) = some (b01 (okx pr (ts.map (itm B nl)) true 0)) := by
  have hN := hg.1
  have hl := hg.2.1
  unfold f_X_isExpression
  exact X_isExpr_l h hg hk hx pr FU 0 true 0 (by omega) (by unfold FU; omega) (by omega)
def knw (B : Nat → Nat) (nl : List Nm) (t : Tk) : Bool := t.1 != 1 || (fnd B t.2.1 (t.2.2.1 - t.2.1) nl).isSome
theorem X_known_l (h : TR ts tn tk tb te tw) (hg : TG N ts) {nl : List Nm} {kn : Int32} {kq : Nat → Option Nat} {ns : List NmR} (hk : KR nl kn kq ns) {xm : Nat → Option Nat} (hx : ∀ j t, ts[j]? = some t → xm j = mng B nl kq t) :
    ∀ n k, k ≤ ts.length → ts.length - k < n → f_X_areNamesKnown_l2 n xm tn tk (nI k) = some (b01 ((ts.drop k).all (knw B nl))) := by
  have hN := hg.1
  have hl := hg.2.1
  intro n
  induction n with
  | zero => intro k h1 h2; omega
  | succ n ih =>
    intro k h1 h2
    unfold f_X_areNamesKnown_l2
    rw [show f_T_size tn = some tn from rfl, Option.bind_some, h.1]
    by_cases c : k < ts.length
    · have hs := ih (k + 1) (by omega) (by omega)
      rw [List.drop_eq_getElem_cons c, List.all_cons]
      have ht := List.getElem?_eq_getElem c
      generalize ts[k] = t at ht ⊢
      have hgt := hg.2.2 t (List.mem_of_getElem? ht)
      have hkk := hgt.k
      rw [if_neg (nI_ge c (by omega)), ← h.1, T_kind h hg ht, Option.bind_some, nI_1, hs]
      by_cases d : t.1 = 1
      · rw [if_pos (show nI t.1 = (1 : Int32) by rw [d]; rfl), X_mean (by omega), Option.bind_some, hx k t ht]
        rcases mng_nm (B := B) hk t with ⟨h1, h2⟩ | ⟨z, r, m, j, h1, h2, h3, h4, h5, h6, h7⟩
        · rw [h1, oc_none]
          have : knw B nl t = false := by unfold knw; rw [(h2 d).1, d]; rfl
          rw [this]; rfl
        · rw [h1, oc_some]
          have : knw B nl t = true := by unfold knw; rw [h5]; simp
          rw [this, Bool.true_and]
      · rw [if_neg (show ¬ nI t.1 = (1 : Int32) from nI_k (b := 1) (by omega) (by decide) d)]
        have : knw B nl t = true := by unfold knw; simp [d]
        rw [this, Bool.true_and]
    · rw [List.drop_eq_nil_of_le (by omega), if_pos (nI_le (by omega) (by omega))]
      rfl
theorem X_known (h : TR ts tn tk tb te tw) (hg : TG N ts) {nl : List Nm} {kn : Int32} {kq : Nat → Option Nat} {ns : List NmR} (hk : KR nl kn kq ns) {xm : Nat → Option Nat} (hx : ∀ j t, ts[j]? = some t → xm j = mng B nl kq t) :
    f_X_areNamesKnown xm tn tk = some (b01 (ts.all (knw B nl))) := by
  have hN := hg.1
  have hl := hg.2.1
  unfold f_X_areNamesKnown
  exact X_known_l h hg hk hx FU 0 (by omega) (by unfold FU; omega)
end
