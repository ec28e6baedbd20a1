/-! TOKENS: kind, begin, end, worth; both stores -/
abbrev Tk : Type := Nat × Nat × Nat × Int64
def TR (ts : List Tk) (tn : Int32) (tk tb te : Nat → Int32) (tw : Nat → Int64) : Prop := tn = nI ts.length ∧ ∀ j t, ts[j]? = some t → tk j = nI t.1 ∧ tb j = nI t.2.1 ∧ te j = nI t.2.2.1 ∧ tw j = t.2.2.2
def TM (ts : List Tk) (tn : Int32) (tk tb te : Nat → Int32) (tw : Nat → Int64) : Prop := tn = nI ts.length ∧ ∀ j t, ts[j]? = some t → tk j = nI t.1 ∧ tb j = nI t.2.1 ∧ te j = nI t.2.2.1 ∧ tw j = wM t.1 t.2.2.2
def GT (N : Nat) (t : Tk) : Prop := t.2.1 < t.2.2.1 ∧ t.2.2.1 ≤ N ∧ (t.1 = 1 ∧ t.2.2.2 = 0 ∧ t.2.2.1 - t.2.1 ≤ 63 ∨ t.1 = 2 ∨ t.1 = 3 ∧ t.2.2.2 = 0 ∨ t.1 = 4 ∧ ∃ c, t.2.2.2 = (nI c).toInt64 ∧ c < 256 ∧ (sgk c = true ∨ c = 60 ∨ c = 62))
theorem TR.nil (tk tb te : Nat → Int32) (tw : Nat → Int64) : TR [] 0 tk tb te tw := ⟨rfl, fun j t h => by simp at h⟩
theorem TM.nil (tk tb te : Nat → Int32) (tw : Nat → Int64) : TM [] 0 tk tb te tw := ⟨rfl, fun j t h => by simp at h⟩
theorem upd_at (f : Nat → Int32) (k : Nat) (x : Int32) : upd f k x k = x := if_pos rfl
theorem upd_ne (f : Nat → Int32) {k j : Nat} (x : Int32) (h : j ≠ k) : upd f k x j = f j := if_neg h
theorem updL_at (f : Nat → Int64) (k : Nat) (x : Int64) : vp_updL f k x k = x := if_pos rfl
theorem updL_ne (f : Nat → Int64) {k j : Nat} (x : Int64) (h : j ≠ k) : vp_updL f k x j = f j := if_neg h
theorem app_get {α : Type} {ts : List α} {x t : α} {j : Nat} (h : (ts ++ [x])[j]? = some t) : ts[j]? = some t ∧ j ≠ ts.length ∨ j = ts.length ∧ t = x := by
  rcases Nat.lt_trichotomy j ts.length with c | c | c
  · rw [List.getElem?_append_left c] at h
    exact Or.inl ⟨h, by omega⟩
  · rw [c, List.getElem?_append_right (Nat.le_refl _), Nat.sub_self] at h
    exact Or.inr ⟨c, (Option.some.inj h).symm⟩
  · rw [List.getElem?_eq_none (by rw [List.length_append]; simp; omega)] at h
    cases h
theorem nar_1 : ∀ k, k < 5 → vp_nar .byte (nI k).toInt8.toInt32 = nI k := by decide +kernel
theorem T_keep {ts : List Tk} {tn : Int32} {tk tb te : Nat → Int32} {tw : Nat → Int64} (h : TR ts tn tk tb te tw) (hl : ts.length < 1024) (k b e : Nat) (w : Int64) (hk : k < 5) :
    ∃ tn' tk' tb' te' tw', f_T_keep tn tk tb te tw (nI k) (nI b) (nI e) w = some (nI e, tn', tk', tb', te', tw') ∧ TR (ts ++ [(k, b, e, w)]) tn' tk' tb' te' tw' := by
  unfold f_T_keep
  rw [h.1, if_pos (show nI ts.length < (1024 : Int32) from nI_lt (b := 1024) hl (by decide))]
  iterate 4 rw [gi_nI hl (by decide)]
  rw [nI_clamp (by omega), nar_1 _ hk, nI_1]
  refine ⟨_, _, _, _, _, rfl, by rw [List.length_append]; rfl, ?_⟩
  intro j t hj
  rcases app_get hj with ⟨h1, h2⟩ | ⟨h1, h2⟩
  · rw [upd_ne _ _ h2, upd_ne _ _ h2, upd_ne _ _ h2, updL_ne _ _ h2]
    exact h.2 j t h1
  · rw [h1, h2, upd_at, upd_at, upd_at, updL_at]
    exact ⟨rfl, rfl, rfl, rfl⟩
theorem M_add {ts : List Tk} {tn : Int32} {tk tb te : Nat → Int32} {tw : Nat → Int64} (h : TM ts tn tk tb te tw) (hl : ts.length < 1024) (k b e : Nat) (w : Int64) :
    ∃ tn' tk' tb' te' tw', f_M_add tn tk tb te tw (nI k) (nI b) (nI e) (wM k w) = some (tn', tk', tb', te', tw') ∧ TM (ts ++ [(k, b, e, w)]) tn' tk' tb' te' tw' := by
  unfold f_M_add
  rw [h.1]
  iterate 4 rw [gi_nI (show ts.length < 1100 by omega) (by decide)]
  rw [nI_clamp (by omega), nI_1]
  refine ⟨_, _, _, _, _, rfl, by rw [List.length_append]; rfl, ?_⟩
  intro j t hj
  rcases app_get hj with ⟨h1, h2⟩ | ⟨h1, h2⟩
  · rw [upd_ne _ _ h2, upd_ne _ _ h2, upd_ne _ _ h2, updL_ne _ _ h2]
    exact h.2 j t h1
  · rw [h1, h2, upd_at, upd_at, upd_at, updL_at]
    exact ⟨rfl, rfl, rfl, rfl⟩
theorem tok_ok {N : Nat} {B : Nat → Nat} (hB : ∀ i, i < N → B i < 256) {i : Nat} (hi : i < N) {t : Nat × Nat × Int64} (h : tok N B i = some t) : GT N (t.1, i, t.2.1, t.2.2) := by
  have hE := eNf_ge B (N - i) i
  unfold tok at h
  by_cases c : dgk (B i) = true
  · rw [if_pos c] at h
    cases hn : tNum N B i with
    | none => rw [hn] at h; cases h
    | some q =>
      rw [hn] at h
      have h := Option.some.inj h
      rw [← h]
      unfold tNum at hn
      have hfe := fsOf_e N B hi
      have hf := fsOf_le N B hi
      by_cases d : fsOf N B i < eNf B (N - i) i
      · rw [if_pos d] at hn
        cases hw : numf B (bsOf N B i) (eNf B (N - i) i - fsOf N B i) (fsOf N B i) 0 with
        | none => rw [hw] at hn; cases hn
        | some w =>
          rw [hw] at hn
          have hn := Option.some.inj hn
          rw [← hn]
          exact ⟨by show i < eNf B (N - i) i; omega, by show eNf B (N - i) i ≤ N; omega, Or.inr (Or.inl rfl)⟩
      · rw [if_neg d] at hn; cases hn
  · rw [if_neg c] at h
    by_cases d : ptk (B i) = true
    · rw [if_pos d] at h
      unfold tName at h
      by_cases e : eNf B (N - i) i - i ≤ 63
      · rw [if_pos e] at h
        have h := Option.some.inj h
        rw [← h]
        have : i < eNf B (N - i) i := by
          rw [show N - i = (N - (i + 1)) + 1 by omega]
          unfold eNf
          rw [if_pos d]
          exact (eNf_ge B _ (i + 1)).1
        exact ⟨this, by show eNf B (N - i) i ≤ N; omega, Or.inl ⟨rfl, rfl, e⟩⟩
      · rw [if_neg e] at h; cases h
    · rw [if_neg d] at h
      by_cases e : B i = 39
      · rw [if_pos e] at h
        unfold tChar at h
        by_cases f : wdk N B (i + 1) 39 = 0
        · rw [if_pos f] at h; cases h
        · rw [if_neg f] at h
          by_cases g : (i + 1 + wdk N B (i + 1) 39 < N ∧ B (i + 1 + wdk N B (i + 1) 39) = 39) ∧ ¬ (i + 2 + wdk N B (i + 1) 39 < N ∧ ptk (B (i + 2 + wdk N B (i + 1) 39)) = true)
          · rw [if_pos g] at h
            have h := Option.some.inj h
            rw [← h]
            exact ⟨by show i < i + 2 + _; omega, by show i + 2 + _ ≤ N; omega, Or.inr (Or.inl rfl)⟩
          · rw [if_neg g] at h; cases h
      · rw [if_neg e] at h
        by_cases f : B i = 34
        · rw [if_pos f] at h
          unfold tText at h
          have hC := eCf_le N B 34 (N - i) (i + 1) (by omega)
          by_cases g : eCf N B 34 (N - i) (i + 1) < N ∧ B (eCf N B 34 (N - i) (i + 1)) = 34
          · rw [if_pos g] at h
            have h := Option.some.inj h
            rw [← h]
            exact ⟨by show i < eCf N B 34 (N - i) (i + 1) + 1; omega, by show eCf N B 34 (N - i) (i + 1) + 1 ≤ N; omega, Or.inr (Or.inr (Or.inl ⟨rfl, rfl⟩))⟩
          · rw [if_neg g] at h; cases h
        · rw [if_neg f] at h
          unfold tSign at h
          by_cases g : sgk (B i) = true
          · rw [if_pos g] at h
            have h := Option.some.inj h
            rw [← h]
            exact ⟨by show i < i + 1; omega, by show i + 1 ≤ N; omega, Or.inr (Or.inr (Or.inr ⟨rfl, B i, rfl, hB i hi, Or.inl g⟩))⟩
          · rw [if_neg g] at h
            by_cases k : (B i = 60 ∨ B i = 62) ∧ i + 1 < N ∧ B (i + 1) = B i
            · rw [if_pos k] at h
              have h := Option.some.inj h
              rw [← h]
              exact ⟨by show i < i + 2; omega, by show i + 2 ≤ N; omega, Or.inr (Or.inr (Or.inr ⟨rfl, B i, rfl, hB i hi, Or.inr k.1⟩))⟩
            · rw [if_neg k] at h; cases h
theorem GT.k {N : Nat} {t : Tk} (h : GT N t) : 1 ≤ t.1 ∧ t.1 < 5 := by
  rcases h.2.2 with ⟨h, _⟩ | h | ⟨h, _⟩ | ⟨h, _⟩ <;> rw [h] <;> omega
def cutb (N : Nat) (B : Nat → Nat) : Nat → Nat → List Tk × Bool
  | 0, _ => ([], true)
  | n + 1, b => if b < N then (match tok N B b with
    | none => ([], false)
    | some t => ((t.1, b, t.2.1, t.2.2) :: (cutb N B n (nsf B N (N - t.2.1) t.2.1)).1, (cutb N B n (nsf B N (N - t.2.1) t.2.1)).2)) else ([], true)
theorem cutb_end (N : Nat) (B : Nat → Nat) (n : Nat) : cutb N B n N = ([], true) := by
  cases n with
  | zero => rfl
  | succ n => unfold cutb; rw [if_neg (by omega)]
theorem cutb_fuel {N : Nat} {B : Nat → Nat} (hB : ∀ i, i < N → B i < 256) : ∀ a c b, b ≤ N → N - b < a → N - b < c → cutb N B a b = cutb N B c b := by
  intro a
  induction a with
  | zero => intro c b h0 h1 h2; omega
  | succ a ih =>
    intro c b h0 h1 h2
    cases c with
    | zero => omega
    | succ c =>
      unfold cutb
      by_cases d : b < N
      · rw [if_pos d, if_pos d]
        cases ht : tok N B b with
        | none => rfl
        | some t =>
          have hg := tok_ok hB d ht
          have g1 : b < t.2.1 := hg.1
          have g2 : t.2.1 ≤ N := hg.2.1
          have hn := nsf_ge B N (N - t.2.1) t.2.1 (by omega)
          dsimp only
          rw [ih c (nsf B N (N - t.2.1) t.2.1) hn.2 (by omega) (by omega)]
      · rw [if_neg d, if_neg d]
theorem cutb_ok {N : Nat} {B : Nat → Nat} (hB : ∀ i, i < N → B i < 256) : ∀ n b, b ≤ N → (∀ t ∈ (cutb N B n b).1, GT N t) ∧ (cutb N B n b).1.length + b ≤ N := by
  intro n
  induction n with
  | zero => intro b h; exact ⟨fun t h => (nomatch h), by show 0 + b ≤ N; omega⟩
  | succ n ih =>
    intro b h
    unfold cutb
    by_cases d : b < N
    · rw [if_pos d]
      cases ht : tok N B b with
      | none => exact ⟨fun t h => (nomatch h), by show 0 + b ≤ N; omega⟩
      | some t =>
        have hg := tok_ok hB d ht
        have g1 : b < t.2.1 := hg.1
        have g2 : t.2.1 ≤ N := hg.2.1
        have hn := nsf_ge B N (N - t.2.1) t.2.1 (by omega)
        have hi := ih _ hn.2
        dsimp only
        refine ⟨fun u hu => ?_, ?_⟩
        · rcases List.mem_cons.mp hu with rfl | hu
          · exact hg
          · exact hi.1 u hu
        · rw [List.length_cons]; omega
    · rw [if_neg d]
      exact ⟨fun t h => (nomatch h), by show 0 + b ≤ N; omega⟩
def cutT (N : Nat) (B : Nat → Nat) : List Tk × Bool := cutb N B (N + 1) (nsf B N N 0)
section
variable {N : Nat} {B : Nat → Nat}
theorem T_cut_l {ln : Int32} {lb : Nat → Int32} (h : LR N B ln lb) :
    ∀ n b (acc : List Tk) tn tk tb te tw, b ≤ N → acc.length ≤ b → N - b < n → TR acc tn tk tb te tw → ∃ tn' tk' tb' te' tw', f_T_cut_l18 n tn 1 tk tb te tw ln lb (nI b) (nI acc.length) = some (tn', b01 (cutb N B (N + 1 - b) b).2, tk', tb', te', tw') ∧ TR (acc ++ (cutb N B (N + 1 - b) b).1) tn' tk' tb' te' tw' := by
  have hN := h.1
  intro n
  induction n with
  | zero => intro b acc tn tk tb te tw h0 h1 h2; omega
  | succ n ih =>
    intro b acc tn tk tb te tw h0 h1 h2 hT
    unfold f_T_cut_l18
    by_cases d : b < N
    · rw [if_neg (show ¬ (1024 : Int32) ≤ nI acc.length from nI_ge (b := 1024) (by omega) (by decide)), L_size, Option.bind_some, h.2.1, if_neg (nI_ge d (by omega)), ← h.2.1, T_cutOne h d]
      rw [show N + 1 - b = (N - b) + 1 by omega]
      unfold cutb
      rw [if_pos d]
      cases ht : tok N B b with
      | none =>
        rw [oc_none, Option.bind_some, if_pos rfl]
        refine ⟨_, _, _, _, _, rfl, ?_⟩
        rw [List.append_nil]
        exact hT
      | some t =>
        have hg := tok_ok h.lt d ht
        have g1 : b < t.2.1 := hg.1
        have g2 : t.2.1 ≤ N := hg.2.1
        obtain ⟨tn1, tk1, tb1, te1, tw1, hk, hT1⟩ := T_keep hT (by omega) t.1 b t.2.1 t.2.2 hg.k.2
        rw [oc_some, hk, Option.bind_some]
        dsimp only
        rw [if_neg (show ¬ nI t.2.1 = -1 from fun z => by
          have h3 := congrArg Int32.toInt z
          rw [nI_toInt (by omega)] at h3
          have h5 : (-1 : Int32).toInt = -1 := by decide
          omega)]
        have hn := nsf_ge B N (N - t.2.1) t.2.1 (by omega)
        rw [S_nextStart h g2, Option.bind_some, nI_1]
        obtain ⟨tn2, tk2, tb2, te2, tw2, hk2, hT2⟩ := ih (nsf B N (N - t.2.1) t.2.1) (acc ++ [(t.1, b, t.2.1, t.2.2)]) tn1 tk1 tb1 te1 tw1 hn.2 (by rw [List.length_append]; simp; omega) (by omega) hT1
        rw [List.length_append] at hk2
        rw [cutb_fuel h.lt (N + 1 - nsf B N (N - t.2.1) t.2.1) (N - b) (nsf B N (N - t.2.1) t.2.1) hn.2 (by omega) (by omega)] at hk2 hT2
        rw [List.append_assoc] at hT2
        exact ⟨tn2, tk2, tb2, te2, tw2, hk2, hT2⟩
    · have hb : b = N := by omega
      subst hb
      rw [cutb_end, List.append_nil]
      refine ⟨tn, tk, tb, te, tw, ?_, hT⟩
      by_cases c : (1024 : Int32) ≤ nI acc.length
      · rw [if_pos c]; rfl
      · rw [if_neg c, L_size, Option.bind_some, h.2.1, if_pos (nI_le (by omega) (by omega))]; rfl
theorem T_cut {ln : Int32} {lb : Nat → Int32} (h : LR N B ln lb) (tn ts : Int32) (tk tb te : Nat → Int32) (tw : Nat → Int64) :
    ∃ tn' tk' tb' te' tw', f_T_cut tn ts tk tb te tw ln lb = some (tn', b01 (cutT N B).2, tk', tb', te', tw') ∧ TR (cutT N B).1 tn' tk' tb' te' tw' := by
  have hN := h.1
  unfold f_T_cut cutT
  have hn := nsf_ge B N N 0 (by omega)
  rw [show (0 : Int32) = nI 0 from nI_0.symm, S_nextStart h (by omega), Option.bind_some, Nat.sub_zero]
  obtain ⟨tn2, tk2, tb2, te2, tw2, hk2, hT2⟩ := T_cut_l h FU (nsf B N N 0) [] 0 tk tb te tw hn.2 (by simp) (by unfold FU; omega) (TR.nil tk tb te tw)
  rw [cutb_fuel h.lt (N + 1 - nsf B N N 0) (N + 1) (nsf B N N 0) hn.2 (by omega) (by omega)] at hk2 hT2
  exact ⟨tn2, tk2, tb2, te2, tw2, hk2, hT2⟩
theorem M_cut_l {mle : Int32} {mli : Nat → Int32} (h : MR N B mle mli) :
    ∀ n i (acc : List Tk) mlr tn tk tb te tw, i ≤ N → acc.length ≤ i → N - i + 1 < n → TM acc tn tk tb te tw → ∃ tn' lr' tk' tb' te' tw', f_M_cut_l7 n mle tn mlr mli tk tb te tw (nI i) = some (b01 (cutb N B (N + 1) (nsf B N (N - i) i)).2, tn', lr', tk', tb', te', tw') ∧ TM (acc ++ (cutb N B (N + 1) (nsf B N (N - i) i)).1) tn' tk' tb' te' tw' := by
  have hN := h.1
  intro n
  induction n with
  | zero => intro i acc mlr tn tk tb te tw h0 h1 h2; omega
  | succ n ih =>
    intro i acc mlr tn tk tb te tw h0 h1 h2 hT
    unfold f_M_cut_l7
    rw [if_neg (nI_pos (by omega)), if_neg (nI_pos (by omega))]
    by_cases d : i < N
    · have hB := h.lt i d
      rw [h.2.1, if_neg (nI_ge d (by omega))]
      iterate 3 rw [gi_nI (show i < 1024 by omega) (by decide)]
      rw [nI_clamp (by omega), (h.2.2 i d).2, ← h.2.1]
      have e59 : (nI (B i) = (59 : Int32)) ↔ B i = 59 := nI_lit hB (by decide)
      have e9 : (nI (B i) = (9 : Int32)) ↔ B i = 9 := nI_lit hB (by decide)
      have e32 : (nI (B i) = (32 : Int32)) ↔ B i = 32 := nI_lit hB (by decide)
      rw [show N - i = (N - (i + 1)) + 1 by omega]
      unfold nsf
      by_cases c1 : B i = 59
      · rw [if_pos (e59.mpr c1), if_pos c1, cutb_end, List.append_nil]
        exact ⟨_, _, _, _, _, _, rfl, hT⟩
      · rw [if_neg (fun z => c1 (e59.mp z)), if_neg c1]
        by_cases c2 : B i = 9
        · rw [if_neg (show ¬ nI (B i) = (32 : Int32) by rw [c2]; decide), if_pos (e9.mpr c2), if_pos c2, nI_1]
          exact ih (i + 1) acc mlr tn tk tb te tw (by omega) (by omega) (by omega) hT
        · rw [if_neg c2]
          by_cases c3 : B i = 32
          · rw [if_pos (e32.mpr c3), if_pos c3, nI_1]
            exact ih (i + 1) acc mlr tn tk tb te tw (by omega) (by omega) (by omega) hT
          · rw [if_neg (fun z => c3 (e32.mp z)), if_neg c3, if_neg (fun z => c2 (e9.mp z))]
            obtain ⟨lr, hlr⟩ := M_next h d tn mlr tk tb te tw
            rw [hlr]
            unfold cutb
            rw [if_pos d]
            cases ht : tok N B i with
            | none =>
              rw [nxM_none, Option.bind_some]
              cases n with
              | zero => omega
              | succ n =>
                unfold f_M_cut_l7
                rw [if_pos (show (-1 : Int32) < 0 by decide), if_pos (show (-1 : Int32) < 0 by decide), List.append_nil]
                exact ⟨_, _, _, _, _, _, rfl, hT⟩
            | some t =>
              have hg := tok_ok h.lt d ht
              have g1 : i < t.2.1 := hg.1
              have g2 : t.2.1 ≤ N := hg.2.1
              obtain ⟨tn1, tk1, tb1, te1, tw1, hk, hT1⟩ := M_add hT (by omega) t.1 i t.2.1 t.2.2
              rw [nxM_some tn tk tb te tw i lr t.1 t.2.1 t.2.2, hk, Option.bind_some, Option.bind_some]
              dsimp only
              have hn := nsf_ge B N (N - t.2.1) t.2.1 (by omega)
              obtain ⟨tn2, lr2, tk2, tb2, te2, tw2, hk2, hT2⟩ := ih t.2.1 (acc ++ [(t.1, i, t.2.1, t.2.2)]) lr tn1 tk1 tb1 te1 tw1 g2 (by rw [List.length_append]; simp; omega) (by omega) hT1
              rw [cutb_fuel h.lt (N + 1) N (nsf B N (N - t.2.1) t.2.1) hn.2 (by omega) (by omega)] at hk2 hT2
              rw [List.append_assoc] at hT2
              exact ⟨tn2, lr2, tk2, tb2, te2, tw2, hk2, hT2⟩
    · have hi : i = N := by omega
      subst hi
      rw [h.2.1, if_pos (nI_le (by omega) (by omega)), Nat.sub_self]
      unfold nsf
      rw [cutb_end, List.append_nil]
      exact ⟨_, _, _, _, _, _, rfl, hT⟩
theorem M_cut {mle : Int32} {mli : Nat → Int32} (h : MR N B mle mli) (mto mlr : Int32) (tk tb te : Nat → Int32) (tw : Nat → Int64) :
    ∃ tn' lr' tk' tb' te' tw', f_M_cut mle mto mlr mli tk tb te tw = some (b01 (cutT N B).2, tn', lr', tk', tb', te', tw') ∧ TM (cutT N B).1 tn' tk' tb' te' tw' := by
  have hN := h.1
  unfold f_M_cut cutT
  have := M_cut_l h FU 0 [] mlr 0 tk tb te tw (by omega) (by simp) (by unfold FU; omega) (TM.nil tk tb te tw)
  rw [nI_0, List.nil_append] at this
  exact this
end
