/-! NAMES: bar, constant, place; both sides -/
def gM (st : Int32) (w : Int64) (mle : Int32) (mnm : Int32) (msp : Int32) (mto : Int32) (mlr : Int32) (mli : Nat → Int32) (mlt : Nat → Int32) (mna : Nat → Int32) (mns : Nat → Int32) (mst : Nat → Int32) (mco : Nat → Int64) (mki : Nat → Int32) (mbe : Nat → Int32) (men : Nat → Int32) (mwo : Nat → Int64) : Option (Int32 × Int32 × Int32 × Int32 × Int32 × Int32 × Int32 × (Nat → Int32) × (Nat → Int32) × (Nat → Int32) × (Nat → Int32) × (Nat → Int64) × (Nat → Int32) × (Nat → Int32) × (Nat → Int32) × (Nat → Int64)) := (f_M_isOneName mle mto mlr mli mki mbe men mwo).bind (fun o_1 => if o_1.1 = (0 : Int32) then (f_M_done mle (0 : Int32)).bind (fun o_3 => some (o_3.1, (0 : Int32), o_3.2, mnm, msp, o_1.2.1, o_1.2.2.1, mlt, mna, mns, mst, mco, o_1.2.2.2.1, o_1.2.2.2.2.1, o_1.2.2.2.2.2.1, o_1.2.2.2.2.2.2)) else (f_M_find mnm mli mlt mna mns o_1.2.2.2.2.1 o_1.2.2.2.2.2.1 (0 : Int32)).bind (fun o_4 => if o_4 < (0 : Int32) then (f_M_enter mnm msp mli mlt mna mns mst mco o_1.2.2.2.2.1 o_1.2.2.2.2.2.1 (0 : Int32) st w).bind (fun o_6 => (f_M_done mle (1 : Int32)).bind (fun o_7 => some (o_7.1, (0 : Int32), o_7.2, o_6.1, o_6.2.1, o_1.2.1, o_1.2.2.1, o_6.2.2.1, o_6.2.2.2.1, o_6.2.2.2.2.1, o_6.2.2.2.2.2.1, o_6.2.2.2.2.2.2, o_1.2.2.2.1, o_1.2.2.2.2.1, o_1.2.2.2.2.2.1, o_1.2.2.2.2.2.2))) else (f_M_done mle (0 : Int32)).bind (fun o_8 => some (o_8.1, (0 : Int32), o_8.2, mnm, msp, o_1.2.1, o_1.2.2.1, mlt, mna, mns, mst, mco, o_1.2.2.2.1, o_1.2.2.2.2.1, o_1.2.2.2.2.2.1, o_1.2.2.2.2.2.2))))
theorem gM_bar (mth : Int32) (mle : Int32) (mnm : Int32) (msp : Int32) (mto : Int32) (mlr : Int32) (mli : Nat → Int32) (mlt : Nat → Int32) (mna : Nat → Int32) (mns : Nat → Int32) (mst : Nat → Int32) (mco : Nat → Int64) (mki : Nat → Int32) (mbe : Nat → Int32) (men : Nat → Int32) (mwo : Nat → Int64) : f_M_bar mth mle mnm msp mto mlr mli mlt mna mns mst mco mki mbe men mwo = gM (-1) 0 mle mnm msp mto mlr mli mlt mna mns mst mco mki mbe men mwo := rfl
theorem gM_con (mth : Int32) (mle : Int32) (mnm : Int32) (msp : Int32) (mto : Int32) (mlr : Int32) (mli : Nat → Int32) (mlt : Nat → Int32) (mna : Nat → Int32) (mns : Nat → Int32) (mst : Nat → Int32) (mco : Nat → Int64) (mki : Nat → Int32) (mbe : Nat → Int32) (men : Nat → Int32) (mwo : Nat → Int64) (p0 : Int64) : f_M_constant mth mle mnm msp mto mlr mli mlt mna mns mst mco mki mbe men mwo p0 = gM (-2) p0 mle mnm msp mto mlr mli mlt mna mns mst mco mki mbe men mwo := rfl
theorem gi00 {α : Type} (x : Option α) : gi (0 : Int32) 1100 x = x := gi_nI (i := 0) (by decide) (by decide)
def on1 (c : List Tk × Bool) : Option Tk := if c.2 = true then (match c.1 with
  | [t] => if t.1 = 1 then some t else none
  | _ => none) else none
theorem on1_s {c : List Tk × Bool} {t : Tk} (h : on1 c = some t) : c.2 = true ∧ c.1 = [t] ∧ t.1 = 1 := by
  unfold on1 at h
  obtain ⟨l, s⟩ := c
  cases s with
  | false => cases h
  | true =>
    rcases l with _ | ⟨a, _ | ⟨b, l⟩⟩
    · cases h
    · have h : (if a.1 = 1 then some a else none) = some t := h
      by_cases q : a.1 = 1
      · rw [if_pos q] at h
        rw [← Option.some.inj h]
        exact ⟨rfl, rfl, q⟩
      · rw [if_neg q] at h; cases h
    · cases h
theorem on1_v (l : List Tk) : on1 (l, true) = (match l with
  | [t] => if t.1 = 1 then some t else none
  | _ => none) := rfl
theorem T_one {N : Nat} {c : List Tk × Bool} {tn : Int32} {tk tb te : Nat → Int32} {tw : Nat → Int64} (h : TR c.1 tn tk tb te tw) (hg : TG N c.1) : f_T_areJustOneName tn (b01 c.2) tk = some (b01 (on1 c).isSome) := by
  unfold f_T_areJustOneName
  obtain ⟨l, s⟩ := c
  have hl := hg.2.1
  have hN := hg.1
  cases s with
  | false => rw [if_pos (show b01 false = 0 from rfl)]; rfl
  | true =>
    rw [if_neg (show ¬ b01 true = 0 by decide), h.1, on1_v]
    rcases l with _ | ⟨a, _ | ⟨b, l⟩⟩
    · rw [if_neg (show ¬ nI ([] : List Tk).length = 1 by decide)]; rfl
    · rw [if_pos (show nI [a].length = 1 from rfl)]
      have := T_kind h hg (k := 0) (t := a) rfl
      rw [h.1] at this
      have this : f_T_kindOf (nI [a].length) tk 0 = some (nI a.1) := this
      rw [this, Option.bind_some]
      have e : nI a.1 = (1 : Int32) ↔ a.1 = 1 := nI_eq (b := 1) (by have := (hg.2.2 a (List.mem_cons_self)).k; omega) (by decide)
      by_cases q : a.1 = 1
      · rw [if_pos (e.mpr q)]
        dsimp only
        rw [if_pos q]; rfl
      · rw [if_neg (fun z => q (e.mp z))]
        dsimp only
        rw [if_neg q]; rfl
    · have hl : l.length + 1 + 1 ≤ N := hl
      rw [if_neg (show ¬ nI (a :: b :: l).length = 1 from nI_k (b := 1) (by rw [List.length_cons, List.length_cons]; omega) (by decide) (by rw [List.length_cons, List.length_cons]; omega))]; rfl
theorem M_one {N : Nat} {B : Nat → Nat} {mle : Int32} {mli : Nat → Int32} (h : MR N B mle mli) (hg : TG N (cutT N B).1) (mto mlr : Int32) (mki mbe men : Nat → Int32) (mwo : Nat → Int64) :
    ∃ mto' mlr' mki' mbe' men' mwo', f_M_isOneName mle mto mlr mli mki mbe men mwo = some (b01 (on1 (cutT N B)).isSome, mto', mlr', mki', mbe', men', mwo') ∧ TM (cutT N B).1 mto' mki' mbe' men' mwo' := by
  obtain ⟨mto', mlr', mki', mbe', men', mwo', hmc, hTM⟩ := M_cut h mto mlr mki mbe men mwo
  refine ⟨mto', mlr', mki', mbe', men', mwo', ?_, hTM⟩
  unfold f_M_isOneName
  rw [hmc, Option.bind_some]
  dsimp only
  have hl := hg.2.1
  have hN := hg.1
  have h1 := hTM.1
  have h2 := hTM.2
  have hk := hg.2.2
  generalize cutT N B = c at hl h1 h2 hk
  obtain ⟨l, s⟩ := c
  cases s with
  | false => rw [if_pos (show b01 false = 0 from rfl)]; rfl
  | true =>
    rw [if_neg (show ¬ b01 true = 0 by decide), h1, on1_v]
    rcases l with _ | ⟨a, _ | ⟨b, l⟩⟩
    · rw [if_neg (show ¬ nI ([] : List Tk).length = 1 by decide)]; rfl
    · rw [if_pos (show nI [a].length = 1 from rfl), gi00, show (0 : Int32).toNatClampNeg = 0 from rfl]
      have hm0 := (h2 0 a rfl).1
      have e : nI a.1 = (1 : Int32) ↔ a.1 = 1 := nI_eq (b := 1) (by have := (hk a (List.mem_cons_self)).k; omega) (by decide)
      by_cases q : a.1 = 1
      · rw [if_pos (show mki' 0 = 1 from hm0.trans (e.mpr q))]
        dsimp only
        rw [if_pos q]; rfl
      · rw [if_neg (fun z => q (e.mp (hm0.symm.trans z)))]
        dsimp only
        rw [if_neg q]; rfl
    · have hl : l.length + 1 + 1 ≤ N := hl
      rw [if_neg (show ¬ nI (a :: b :: l).length = 1 from nI_k (b := 1) (by rw [List.length_cons, List.length_cons]; omega) (by decide) (by rw [List.length_cons, List.length_cons]; omega))]; rfl
section
variable {N : Nat} {B : Nat → Nat} {ln : Int32} {lb : Nat → Int32} {nl : List Nm} {kn : Int32} {kq : Nat → Option Nat} {ns : List NmR}
variable {mle : Int32} {mli : Nat → Int32} {mnm msp : Int32} {mlt mna mns mst : Nat → Int32} {mco : Nat → Int64}
/-- the line is one name that nobody knows: what the road of a new name asks -/
def NEW (N : Nat) (B : Nat → Nat) (nl : List Nm) (kn : Int32) (kq : Nat → Option Nat) (ns : List NmR) (ln : Int32) (lb : Nat → Int32) (tn : Int32) (ts : Int32) (tk tb te : Nat → Int32) (b n : Nat) : Prop := 0 < n ∧ b + n ≤ N ∧ n ≤ 63 ∧ f_T_areJustOneName tn ts tk = some 1 ∧ f_T_beginOf tn tb 0 = some (nI b) ∧ f_T_endOf tn te 0 = some (nI (b + n)) ∧ f_K_find kn kq ln lb ns (nI b) (nI (b + n)) = some none
theorem learn_both (hL : LR N B ln lb) (hM : MR N B mle mli) (hKR : KR nl kn kq ns) (hk : KM nl mnm msp mlt mna mns mst mco) (tn ts : Int32) (tk tb te : Nat → Int32) (tw : Nat → Int64) (mto mlr : Int32) (mki mbe men : Nat → Int32) (mwo : Nat → Int64) (bz : Int32) (wv : Int64) (st : Int32) :
    ∃ tn' tk' tb' te' tw' mto' mlr' mki' mbe' men' mwo', f_T_cut tn ts tk tb te tw ln lb = some (tn', b01 (cutT N B).2, tk', tb', te', tw') ∧ TR (cutT N B).1 tn' tk' tb' te' tw' ∧ TM (cutT N B).1 mto' mki' mbe' men' mwo' ∧
      ((f_R_learnName ln lb tn ts tk tb te tw kn kq ns bz wv = some (0, 0, tn', b01 (cutT N B).2, tk', tb', te', tw') ∧ gM st wv mle mnm msp mto mlr mli mlt mna mns mst mco mki mbe men mwo = some (0, 0, 0, mnm, msp, mto', mlr', mlt, mna, mns, mst, mco, mki', mbe', men', mwo')) ∨
       (∃ b n mnm' msp' mlt' mna' mns' mst' mco', NEW N B nl kn kq ns ln lb tn' (b01 (cutT N B).2) tk' tb' te' b n ∧ gM st wv mle mnm msp mto mlr mli mlt mna mns mst mco mki mbe men mwo = some (1, 0, 0, mnm', msp', mto', mlr', mlt', mna', mns', mst', mco', mki', mbe', men', mwo') ∧ KM (nl ++ [(n, fun i => B (b + i), st, wv)]) mnm' msp' mlt' mna' mns' mst' mco')) := by
  have hTG := cut_TG hL
  have h256 := hKR.1
  obtain ⟨tn', tk', tb', te', tw', hc, hTR⟩ := T_cut hL tn ts tk tb te tw
  obtain ⟨mto', mlr', mki', mbe', men', mwo', hmo, hTM⟩ := M_one hM hTG mto mlr mki mbe men mwo
  have hone := T_one hTR hTG
  refine ⟨tn', tk', tb', te', tw', mto', mlr', mki', mbe', men', mwo', hc, hTR, hTM, ?_⟩
  unfold gM f_R_learnName f_L_clear f_M_done
  rw [hmo, Option.bind_some, hc, Option.bind_some]
  dsimp only
  rw [hone, Option.bind_some]
  cases h1 : on1 (cutT N B) with
  | none =>
    have e0 : b01 (none : Option Tk).isSome = 0 := rfl
    refine Or.inl ⟨?_, ?_⟩
    · rw [if_pos e0]; rfl
    · rw [if_pos e0, gz_0]; rfl
  | some t =>
    obtain ⟨-, q2, q3⟩ := on1_s h1
    have ht0 : (cutT N B).1[0]? = some t := by rw [q2]; rfl
    have hgt := hTG.2.2 t (List.mem_of_getElem? ht0)
    have hb := T_begin hTR hTG ht0
    have he := T_end hTR hTG ht0
    have hb : f_T_beginOf tn' tb' 0 = some (nI t.2.1) := hb
    have he : f_T_endOf tn' te' 0 = some (nI t.2.2.1) := he
    obtain ⟨-, m2, m3, -⟩ := hTM.2 0 t ht0
    obtain ⟨g1, g2, g3⟩ := hgt
    have g63 : t.2.2.1 - t.2.1 ≤ 63 := by
      rcases g3 with z | z | z | z
      · exact z.2.2
      · omega
      · omega
      · omega
    have hkf := K_find hL hKR (b := t.2.1) (e := t.2.2.1) (by omega) g2
    have hmf := M_find hM hKR.2.2.1 h256 hk (t := 0) (by decide) m2 m3 (by omega) g2
    have hmf : f_M_find mnm mli mlt mna mns mbe' men' 0 = _ := hmf
    have e1' : ¬ b01 (some t).isSome = 0 := (by decide : ¬ b01 true = 0)
    rw [if_neg e1', if_neg e1', hb, Option.bind_some, he, Option.bind_some, hmf, Option.bind_some]
    unfold f_K_learn
    rw [hkf, Option.bind_some]
    cases hf : fnd B t.2.1 (t.2.2.1 - t.2.1) nl with
    | some j =>
      obtain ⟨m, hm⟩ := fnf_lt _ _ _ _ _ _ _ hf
      have hj : j < nl.length := (List.getElem?_eq_some_iff.mp hm).1
      obtain ⟨z, r, k1, k2, k3⟩ := hKR.2.2.2 j m hm
      refine Or.inl ⟨?_, ?_⟩
      · rw [show (some j : Option Nat).bind kq = some z from k1, oc_some, Option.bind_some, if_pos rfl]
      · dsimp only
        rw [Option.bind_some, if_neg (nI_pos (by omega)), gz_0]; rfl
    | none =>
      obtain ⟨mnm', msp', mlt', mna', mns', mst', mco', e1, e2⟩ := M_enter hM h256 hk (t := 0) (by decide) m2 m3 (by omega) g2 g63 st wv
      have e1 : f_M_enter mnm msp mli mlt mna mns mst mco mbe' men' 0 st wv = _ := e1
      refine Or.inr ⟨t.2.1, t.2.2.1 - t.2.1, mnm', msp', mlt', mna', mns', mst', mco', ⟨by omega, by omega, g63, ?_, hb, ?_, ?_⟩, ?_, e2⟩
      · rw [hone, h1]; rfl
      · rw [he]; congr 2; omega
      · rw [show t.2.1 + (t.2.2.1 - t.2.1) = t.2.2.1 by omega, hkf, hf]; rfl
      · dsimp only
        rw [Option.bind_some, if_pos (show (-1 : Int32) < 0 by decide), e1, Option.bind_some, gz_1]; rfl
theorem place_both (hL : LR N B ln lb) (hM : MR N B mle mli) (hKR : KR nl kn kq ns) (hk : KM nl mnm msp mlt mna mns mst mco) (tn ts : Int32) (tk tb te : Nat → Int32) (tw : Nat → Int64) (mth mto mlr : Int32) (mki mbe men : Nat → Int32) (mwo : Nat → Int64) (mpl : Int32) :
    ∃ tn' tk' tb' te' tw' mto' mlr' mki' mbe' men' mwo', f_T_cut tn ts tk tb te tw ln lb = some (tn', b01 (cutT N B).2, tk', tb', te', tw') ∧ TR (cutT N B).1 tn' tk' tb' te' tw' ∧ TM (cutT N B).1 mto' mki' mbe' men' mwo' ∧
      ((∃ r, f_R_place ln lb tn ts tk tb te tw kn kq ns = some (r, 0, tn', b01 (cutT N B).2, tk', tb', te', tw') ∧ f_M_place mth mle mnm msp mpl mto mlr mli mlt mna mns mst mco mki mbe men mwo = some (r, 0, 0, mnm, msp, mpl, mto', mlr', mlt, mna, mns, mst, mco, mki', mbe', men', mwo')) ∨
       (∃ b n mnm' msp' mlt' mna' mns' mst' mco', NEW N B nl kn kq ns ln lb tn' (b01 (cutT N B).2) tk' tb' te' b n ∧ f_M_place mth mle mnm msp mpl mto mlr mli mlt mna mns mst mco mki mbe men mwo = some (mpl, 0, 0, mnm', msp', mpl + 1, mto', mlr', mlt', mna', mns', mst', mco', mki', mbe', men', mwo') ∧ KM (nl ++ [(n, fun i => B (b + i), mpl, 0)]) mnm' msp' mlt' mna' mns' mst' mco')) := by
  have hTG := cut_TG hL
  have h256 := hKR.1
  obtain ⟨tn', tk', tb', te', tw', hc, hTR⟩ := T_cut hL tn ts tk tb te tw
  obtain ⟨mto', mlr', mki', mbe', men', mwo', hmo, hTM⟩ := M_one hM hTG mto mlr mki mbe men mwo
  have hone := T_one hTR hTG
  refine ⟨tn', tk', tb', te', tw', mto', mlr', mki', mbe', men', mwo', hc, hTR, hTM, ?_⟩
  unfold f_M_place f_R_place f_L_clear f_M_place_j50 f_M_place_j65
  rw [hmo, Option.bind_some, hc, Option.bind_some]
  dsimp only
  rw [hone, Option.bind_some]
  cases h1 : on1 (cutT N B) with
  | none =>
    have e0 : b01 (none : Option Tk).isSome = 0 := rfl
    refine Or.inl ⟨-1, ?_, ?_⟩
    · rw [if_pos e0]; rfl
    · rw [if_pos e0]
  | some t =>
    obtain ⟨-, q2, q3⟩ := on1_s h1
    have ht0 : (cutT N B).1[0]? = some t := by rw [q2]; rfl
    have hgt := hTG.2.2 t (List.mem_of_getElem? ht0)
    have hb := T_begin hTR hTG ht0
    have he := T_end hTR hTG ht0
    have hb : f_T_beginOf tn' tb' 0 = some (nI t.2.1) := hb
    have he : f_T_endOf tn' te' 0 = some (nI t.2.2.1) := he
    obtain ⟨-, m2, m3, -⟩ := hTM.2 0 t ht0
    obtain ⟨g1, g2, g3⟩ := hgt
    have g63 : t.2.2.1 - t.2.1 ≤ 63 := by
      rcases g3 with z | z | z | z
      · exact z.2.2
      · omega
      · omega
      · omega
    have hkf := K_find hL hKR (b := t.2.1) (e := t.2.2.1) (by omega) g2
    have hmf := M_find hM hKR.2.2.1 h256 hk (t := 0) (by decide) m2 m3 (by omega) g2
    have hmf : f_M_find mnm mli mlt mna mns mbe' men' 0 = _ := hmf
    have e1' : ¬ b01 (some t).isSome = 0 := (by decide : ¬ b01 true = 0)
    rw [if_neg e1', if_neg e1', hb, Option.bind_some, he, Option.bind_some, hmf, Option.bind_some]
    unfold f_K_placeFor
    rw [hkf, Option.bind_some]
    cases hf : fnd B t.2.1 (t.2.2.1 - t.2.1) nl with
    | some j =>
      obtain ⟨m, hm⟩ := fnf_lt _ _ _ _ _ _ _ hf
      have hj : j < nl.length := (List.getElem?_eq_some_iff.mp hm).1
      obtain ⟨z, r, k1, k2, k3⟩ := hKR.2.2.2 j m hm
      obtain ⟨-, sp, -, -, hkk⟩ := hk
      obtain ⟨a, -, -, -, -, ks, -⟩ := hkk j m hm
      have kw : r.2.2.2.2.2.2 = whr m.2.2.1 := k3.2.2.2.2
      refine Or.inl ⟨whr m.2.2.1, ?_, ?_⟩
      · rw [show (some j : Option Nat).bind kq = some z from k1, oc_some, k2, Option.bind_some, Option.bind_some, Option.bind_some, kw]
      · dsimp only
        have p0 : (0 : Int32) ≤ nI j := nI_pos' (by omega)
        rw [if_pos p0, gi_nI (by omega) (by decide), nI_clamp (by omega), ks]
        unfold whr
        by_cases q : 0 ≤ m.2.2.1
        · rw [if_pos q, gi_nI (by omega) (by decide), if_pos p0, if_pos p0, if_pos q, Int32.add_zero]
        · rw [if_neg q, if_pos p0, if_pos p0, if_neg q, Int32.add_zero]
    | none =>
      obtain ⟨mnm', msp', mlt', mna', mns', mst', mco', e1, e2⟩ := M_enter hM h256 hk (t := 0) (by decide) m2 m3 (by omega) g2 g63 mpl 0
      have e1 : f_M_enter mnm msp mli mlt mna mns mst mco mbe' men' 0 mpl 0 = _ := e1
      have nm : ¬ (0 : Int32) ≤ -1 := by decide
      refine Or.inr ⟨t.2.1, t.2.2.1 - t.2.1, mnm', msp', mlt', mna', mns', mst', mco', ⟨by omega, by omega, g63, ?_, hb, ?_, ?_⟩, ?_, e2⟩
      · rw [hone, h1]; rfl
      · rw [he]; congr 2; omega
      · rw [show t.2.1 + (t.2.2.1 - t.2.1) = t.2.2.1 by omega, hkf, hf]; rfl
      · dsimp only
        rw [if_neg nm, if_neg nm, e1, Option.bind_some, if_neg nm]
end
