/-! NAMES: length, letters, state (-1 barred, -2 constant, else its place), worth -/
abbrev Nm : Type := Nat × (Nat → Nat) × Int32 × Int64
def eqs (f g : Nat → Nat) : Nat → Nat → Bool
  | 0, _ => true
  | k + 1, j => f j == g j && eqs f g k (j + 1)
def eqn (B : Nat → Nat) (b n : Nat) (m : Nm) : Bool := m.1 == n && eqs m.2.1 (fun i => B (b + i)) n 0
def fnf (B : Nat → Nat) (b n : Nat) (nl : List Nm) : Nat → Nat → Option Nat
  | 0, _ => none
  | k + 1, i => match nl[i]? with
    | none => none
    | some m => if eqn B b n m = true then some i else fnf B b n nl k (i + 1)
def fnd (B : Nat → Nat) (b n : Nat) (nl : List Nm) : Option Nat := fnf B b n nl (nl.length) 0
def NmG (m : Nm) : Prop := m.1 ≤ 63 ∧ (∀ i, i < m.1 → m.2.1 i < 256) ∧ (m.2.2.1 = -1 ∨ m.2.2.1 = -2 ∨ 0 ≤ m.2.2.1) ∧ (m.2.2.1 ≠ -2 → m.2.2.2 = 0)
def whr (s : Int32) : Int32 := if 0 ≤ s then s else -1
/-- one name of the class -/
def NR (r : NmR) (m : Nm) : Prop := r.2.2.1 = m.1 ∧ (∀ i, i < m.1 → r.2.2.2.1 i &&& 255 = nI (m.2.1 i)) ∧ r.2.2.2.2.1 = (if m.2.2.1 = -1 then 1 else 0) ∧ r.2.2.2.2.2.1 = m.2.2.2 ∧ r.2.2.2.2.2.2 = whr m.2.2.1
def KR (nl : List Nm) (kn : Int32) (kq : Nat → Option Nat) (ns : List NmR) : Prop := nl.length ≤ 256 ∧ kn = nI nl.length ∧ (∀ m ∈ nl, NmG m) ∧ ∀ j m, nl[j]? = some m → ∃ z r, kq j = some z ∧ nsg ns z = some r ∧ NR r m
def KM (nl : List Nm) (mnm msp : Int32) (mlt mna mns mst : Nat → Int32) (mco : Nat → Int64) : Prop := mnm = nI nl.length ∧ ∃ sp, sp ≤ 63 * nl.length ∧ msp = nI sp ∧ ∀ j m, nl[j]? = some m → ∃ a, a + m.1 ≤ sp ∧ mna j = nI a ∧ mns j = nI m.1 ∧ (∀ i, i < m.1 → mlt (a + i) = nI (m.2.1 i)) ∧ mst j = m.2.2.1 ∧ mco j = m.2.2.2
theorem fnf_end (B : Nat → Nat) (b n : Nat) (nl : List Nm) (k i : Nat) (h : nl.length ≤ i) : fnf B b n nl k i = none := by
  cases k with
  | zero => rfl
  | succ k => unfold fnf; rw [List.getElem?_eq_none h]
theorem fnf_lt (B : Nat → Nat) (b n : Nat) (nl : List Nm) : ∀ k i j, fnf B b n nl k i = some j → ∃ m, nl[j]? = some m := by
  intro k
  induction k with
  | zero => intro i j h; cases h
  | succ k ih =>
    intro i j h
    unfold fnf at h
    cases hm : nl[i]? with
    | none => rw [hm] at h; cases h
    | some m =>
      rw [hm] at h
      dsimp only at h
      by_cases c : eqn B b n m = true
      · rw [if_pos c] at h
        exact ⟨m, by rw [← Option.some.inj h]; exact hm⟩
      · rw [if_neg c] at h
        exact ih _ _ h
theorem b01_0 : b01 false = 0 := rfl
theorem b01_1 : b01 true = 1 := rfl
section
variable {N : Nat} {B : Nat → Nat}
theorem L_holds_l {ln : Int32} {lb : Nat → Int32} (h : LR N B ln lb) {n : Nat} (hn : n ≤ 63) {lq : Nat → Int32} {f : Nat → Nat} (hf : ∀ i, i < n → f i < 256) (hq : ∀ i, i < n → lq i &&& 255 = nI (f i)) {b : Nat} (hb : b + n ≤ N) :
    ∀ k j, j ≤ n → n - j < k → f_L_holds_l13 k ln lb n lq (nI b) (nI j) = some (b01 (eqs f (fun i => B (b + i)) (n - j) j)) := by
  have hN := h.1
  intro k
  induction k with
  | zero => intro j h1 h2; omega
  | succ k ih =>
    intro j h1 h2
    unfold f_L_holds_l13
    by_cases c : j < n
    · rw [if_neg (show ¬ Int32.ofNat n ≤ nI j from nI_ge c (by omega)), nI_add, L_at h (by omega), Option.bind_some, gi_nI c (by omega), nI_clamp (by omega), hq j c, show cat N B (b + j) = nI (B (b + j)) from if_pos (by omega)]
      rw [show n - j = (n - (j + 1)) + 1 by omega]
      unfold eqs
      have e : nI (B (b + j)) = nI (f j) ↔ B (b + j) = f j := nI_lit (h.lt _ (by omega)) (hf j c)
      by_cases d : B (b + j) = f j
      · rw [if_pos (e.mpr d), nI_1, ih (j + 1) (by omega) (by omega)]
        simp [d]
      · rw [if_neg (fun z => d (e.mp z))]
        have : (f j == B (b + j)) = false := by simpa using fun z => d z.symm
        rw [this]
        rfl
    · rw [if_pos (show Int32.ofNat n ≤ nI j from nI_le (by omega) (by omega)), show n - j = 0 by omega]
      rfl
theorem L_holds {ln : Int32} {lb : Nat → Int32} (h : LR N B ln lb) {r : NmR} {m : Nm} (hm : NmG m) (hr : NR r m) {b e : Nat} (hb : b ≤ e) (he : e ≤ N) :
    f_L_holds ln lb r.2.2.1 r.2.2.2.1 (nI b) (nI e) = some (b01 (eqn B b (e - b) m)) := by
  have hN := h.1
  have h63 := hm.1
  unfold f_L_holds eqn
  rw [pk_sub hb, hr.1]
  have eq_ : Int32.ofNat m.1 = nI (e - b) ↔ m.1 = e - b := nI_eq (by omega) (by omega)
  by_cases c : m.1 = e - b
  · rw [if_pos (eq_.mpr c), show (0 : Int32) = nI 0 from nI_0.symm, L_holds_l h h63 hm.2.1 hr.2.1 (by omega) FU 0 (by omega) (by unfold FU; omega)]
    rw [c, Nat.sub_zero]
    simp
  · rw [if_neg (fun z => c (eq_.mp z))]
    have : (m.1 == e - b) = false := by simpa using c
    rw [this]
    rfl
theorem K_find_l {ln : Int32} {lb : Nat → Int32} (h : LR N B ln lb) {nl : List Nm} {kn : Int32} {kq : Nat → Option Nat} {ns : List NmR} (hk : KR nl kn kq ns) {b e : Nat} (hb : b ≤ e) (he : e ≤ N) :
    ∀ k i, i ≤ nl.length → nl.length - i < k → f_K_find_l3 k kn kq ln lb ns (nI b) (nI e) (nI i) = some ((fnf B b (e - b) nl (nl.length - i) i).bind kq) := by
  have h256 := hk.1
  intro k
  induction k with
  | zero => intro i h1 h2; omega
  | succ k ih =>
    intro i h1 h2
    unfold f_K_find_l3
    rw [hk.2.1]
    by_cases c : i < nl.length
    · obtain ⟨z, r, hz, hr, hnr⟩ := hk.2.2.2 i nl[i] (List.getElem?_eq_getElem c)
      rw [if_neg (nI_ge c (by omega)), gi_nI (by omega) (by decide), nI_clamp (by omega), hz, oc_some, hr, Option.bind_some, L_holds h (hk.2.2.1 _ (List.getElem_mem c)) hnr hb he, Option.bind_some]
      rw [show nl.length - i = (nl.length - (i + 1)) + 1 by omega]
      unfold fnf
      rw [List.getElem?_eq_getElem c]
      dsimp only
      by_cases d : eqn B b (e - b) nl[i] = true
      · rw [if_neg (b01_ne d), if_pos d, Option.bind_some, hz]
      · rw [if_pos (b01_eq d), if_neg d, nI_1, ← hk.2.1]
        exact ih (i + 1) (by omega) (by omega)
    · rw [if_pos (nI_le (by omega) (by omega)), show nl.length - i = 0 by omega]
      rfl
theorem K_find {ln : Int32} {lb : Nat → Int32} (h : LR N B ln lb) {nl : List Nm} {kn : Int32} {kq : Nat → Option Nat} {ns : List NmR} (hk : KR nl kn kq ns) {b e : Nat} (hb : b ≤ e) (he : e ≤ N) :
    f_K_find kn kq ln lb ns (nI b) (nI e) = some ((fnd B b (e - b) nl).bind kq) := by
  have h256 := hk.1
  unfold f_K_find fnd
  rw [show (0 : Int32) = nI 0 from nI_0.symm, K_find_l h hk hb he FU 0 (by omega) (by unfold FU; omega), Nat.sub_zero]
theorem M_isNamed_l {mle : Int32} {mli : Nat → Int32} (h : MR N B mle mli) {n : Nat} (hn : n ≤ 63) {mlt mna mns mbe men : Nat → Int32} {f : Nat → Nat} (hf : ∀ i, i < n → f i < 256) {a b p t : Nat} (ha : a + n ≤ 16128) (hb : b + n ≤ N) (hp : p < 2200) (ht : t < 1100) (hs : mns p = nI n) (hq : ∀ i, i < n → mlt (a + i) = nI (f i)) (hna : mna p = nI a) (hbe : mbe t = nI b) :
    ∀ k j, j ≤ n → n - j < k → f_M_isNamed_l31 k mli mlt mna mns mbe men (nI p) (nI t) 1 (nI j) = some (b01 (eqs f (fun i => B (b + i)) (n - j) j)) := by
  have hN := h.1
  intro k
  induction k with
  | zero => intro j h1 h2; omega
  | succ k ih =>
    intro j h1 h2
    unfold f_M_isNamed_l31
    rw [gi_nI hp (by decide), nI_clamp (show p < 2 ^ 31 by omega), hs]
    by_cases c : j < n
    · rw [if_neg (nI_ge c (by omega)), if_neg (show ¬ (1 : Int32) = 0 by decide), gi_nI hp (by decide), hna, nI_add, gi_nI (show a + j < 40000 by omega) (by decide), gi_nI ht (by decide), nI_clamp (show t < 2 ^ 31 by omega), hbe, nI_add, gi_nI (show b + j < 1024 by omega) (by decide), nI_clamp (show a + j < 2 ^ 31 by omega), nI_clamp (show b + j < 2 ^ 31 by omega), hq j c, (h.2.2 (b + j) (by omega)).2, nI_1]
      rw [show n - j = (n - (j + 1)) + 1 by omega]
      unfold eqs
      have e : nI (f j) = nI (B (b + j)) ↔ f j = B (b + j) := nI_lit (hf j c) (h.lt _ (by omega))
      by_cases d : f j = B (b + j)
      · rw [if_pos (e.mpr d), ih (j + 1) (by omega) (by omega)]
        simp [d]
      · rw [if_neg (fun z => d (e.mp z))]
        have : (f j == B (b + j)) = false := by simpa using d
        rw [this]
        cases k with
        | zero => omega
        | succ k =>
          unfold f_M_isNamed_l31
          rw [gi_nI hp (by decide), if_pos rfl]
          by_cases g : mns (nI p).toNatClampNeg ≤ nI (j + 1)
          · rw [if_pos g]; rfl
          · rw [if_neg g]; rfl
    · rw [if_pos (nI_le (by omega) (by omega)), show n - j = 0 by omega]
      rfl
theorem M_isNamed {mle : Int32} {mli : Nat → Int32} (h : MR N B mle mli) {nl : List Nm} (hg : ∀ m ∈ nl, NmG m) (hl : nl.length ≤ 256) {mnm msp : Int32} {mlt mna mns mst : Nat → Int32} {mco : Nat → Int64} (hk : KM nl mnm msp mlt mna mns mst mco) {mbe men : Nat → Int32} {p t b e : Nat} (ht : t < 1100) (hbe : mbe t = nI b) (hen : men t = nI e) (hb : b ≤ e) (he : e ≤ N) (hp : p < nl.length) :
    f_M_isNamed mli mlt mna mns mbe men (nI p) (nI t) = some (b01 (eqn B b (e - b) nl[p])) := by
  have hN := h.1
  obtain ⟨-, sp, hsp, -, hk⟩ := hk
  obtain ⟨a, ha, hna, hs, hq, -⟩ := hk p nl[p] (List.getElem?_eq_getElem hp)
  obtain ⟨h63, hf, -⟩ := hg _ (List.getElem_mem hp)
  generalize nl[p] = m at *
  unfold f_M_isNamed eqn
  rw [gi_nI (show p < 2200 by omega) (by decide), gi_nI ht (by decide), gi_nI ht (by decide), nI_clamp (show p < 2 ^ 31 by omega), nI_clamp (show t < 2 ^ 31 by omega), hs, hbe, hen, pk_sub hb]
  have eq_ : nI m.1 = nI (e - b) ↔ m.1 = e - b := nI_eq (by omega) (by omega)
  by_cases c : m.1 = e - b
  · rw [if_pos (eq_.mpr c), show (0 : Int32) = nI 0 from nI_0.symm, M_isNamed_l h h63 hf (by omega) (show b + m.1 ≤ N by omega) (by omega) ht hs hq hna hbe FU 0 (by omega) (by unfold FU; omega)]
    rw [c, Nat.sub_zero]
    simp
  · rw [if_neg (fun z => c (eq_.mp z))]
    have : (m.1 == e - b) = false := by simpa using c
    rw [this]
    show f_M_isNamed_l31 (4095 + 1) _ _ _ _ _ _ _ _ _ _ = _
    unfold f_M_isNamed_l31
    rw [gi_nI (show p < 2200 by omega) (by decide), if_pos rfl]
    by_cases g : mns (nI p).toNatClampNeg ≤ 0
    · rw [if_pos g]; rfl
    · rw [if_neg g]; rfl
theorem M_find_l {mle : Int32} {mli : Nat → Int32} (h : MR N B mle mli) {nl : List Nm} (hg : ∀ m ∈ nl, NmG m) (hl : nl.length ≤ 256) {mnm msp : Int32} {mlt mna mns mst : Nat → Int32} {mco : Nat → Int64} (hk : KM nl mnm msp mlt mna mns mst mco) {mbe men : Nat → Int32} {t b e : Nat} (ht : t < 1100) (hbe : mbe t = nI b) (hen : men t = nI e) (hb : b ≤ e) (he : e ≤ N) :
    ∀ k i, i ≤ nl.length → nl.length - i < k → f_M_find_l2 k mnm mli mlt mna mns mbe men (nI t) (nI i) = some (match fnf B b (e - b) nl (nl.length - i) i with
      | none => -1
      | some j => nI j) := by
  intro k
  induction k with
  | zero => intro i h1 h2; omega
  | succ k ih =>
    intro i h1 h2
    unfold f_M_find_l2
    rw [hk.1]
    by_cases c : i < nl.length
    · rw [if_neg (nI_ge c (by omega)), M_isNamed h hg hl hk ht hbe hen hb he c, Option.bind_some]
      rw [show nl.length - i = (nl.length - (i + 1)) + 1 by omega]
      unfold fnf
      rw [List.getElem?_eq_getElem c]
      dsimp only
      by_cases d : eqn B b (e - b) nl[i] = true
      · rw [if_neg (b01_ne d), if_pos d]
      · rw [if_pos (b01_eq d), if_neg d, nI_1, ← hk.1]
        exact ih (i + 1) (by omega) (by omega)
    · rw [if_pos (nI_le (by omega) (by omega)), show nl.length - i = 0 by omega]
      rfl
theorem M_find {mle : Int32} {mli : Nat → Int32} (h : MR N B mle mli) {nl : List Nm} (hg : ∀ m ∈ nl, NmG m) (hl : nl.length ≤ 256) {mnm msp : Int32} {mlt mna mns mst : Nat → Int32} {mco : Nat → Int64} (hk : KM nl mnm msp mlt mna mns mst mco) {mbe men : Nat → Int32} {t b e : Nat} (ht : t < 1100) (hbe : mbe t = nI b) (hen : men t = nI e) (hb : b ≤ e) (he : e ≤ N) :
    f_M_find mnm mli mlt mna mns mbe men (nI t) = some (match fnd B b (e - b) nl with
      | none => -1
      | some j => nI j) := by
  unfold f_M_find fnd
  rw [show (0 : Int32) = nI 0 from nI_0.symm, M_find_l h hg hl hk ht hbe hen hb he FU 0 (by omega) (by unfold FU; omega), Nat.sub_zero]
theorem M_enter_l {mle : Int32} {mli : Nat → Int32} (h : MR N B mle mli) {mnm : Int32} {mlt0 mna mns mst : Nat → Int32} {mco : Nat → Int64} {mbe men : Nat → Int32} {q t b e sp : Nat} (hq : q < 2200) (hm : mnm = nI q) (ht : t < 1100) (hen : men t = nI e) (hb : b ≤ e) (he : e ≤ N) (hsp : sp + (e - b) ≤ 40000) (x2 : Int32) (x3 : Int64) :
    ∀ k i mlt, b ≤ i → i ≤ e → e - i < k → (∀ j, j < sp → mlt j = mlt0 j) → (∀ j, j < i - b → mlt (sp + j) = nI (B (b + j))) →
      ∃ mlt', f_M_enter_l43 k mnm (nI (sp + (i - b))) mli mlt mna mns mst mco mbe men (nI t) x2 x3 (nI i) = some (nI (q + 1), nI (sp + (e - b)), mlt', mna, mns, upd mst q x2, vp_updL mco q x3) ∧ (∀ j, j < sp → mlt' j = mlt0 j) ∧ (∀ j, j < e - b → mlt' (sp + j) = nI (B (b + j))) := by
  have hN := h.1
  intro k
  induction k with
  | zero => intro i mlt h0 h1 h2; omega
  | succ k ih =>
    intro i mlt h0 h1 h2 g1 g2
    unfold f_M_enter_l43
    rw [gi_nI ht (by decide), nI_clamp (show t < 2 ^ 31 by omega), hen]
    by_cases c : i < e
    · rw [if_neg (nI_ge c (by omega)), gi_nI (show i < 1024 by omega) (by decide), gi_nI (show sp + (i - b) < 40000 by omega) (by decide), nI_clamp (show i < 2 ^ 31 by omega), nI_clamp (show sp + (i - b) < 2 ^ 31 by omega), (h.2.2 i (by omega)).2, nI_1, nI_1]
      rw [show sp + (i - b) + 1 = sp + (i + 1 - b) by omega]
      refine ih (i + 1) _ (by omega) (by omega) (by omega) (fun j hj => ?_) (fun j hj => ?_)
      · rw [upd_ne _ _ (by omega)]; exact g1 j hj
      · by_cases d : j = i - b
        · rw [d, upd_at, show b + (i - b) = i by omega]
        · rw [upd_ne _ _ (by omega)]; exact g2 j (by omega)
    · have hi : i = e := by omega
      subst hi
      rw [if_pos (nI_le (by omega) (by omega)), hm, gi_nI hq (by decide), gi_nI hq (by decide), nI_clamp (by omega), nI_1]
      exact ⟨mlt, rfl, g1, g2⟩
theorem M_enter {mle : Int32} {mli : Nat → Int32} (h : MR N B mle mli) {nl : List Nm} (hl : nl.length ≤ 256) {mnm msp : Int32} {mlt mna mns mst : Nat → Int32} {mco : Nat → Int64} (hk : KM nl mnm msp mlt mna mns mst mco) {mbe men : Nat → Int32} {t b e : Nat} (ht : t < 1100) (hbe : mbe t = nI b) (hen : men t = nI e) (hb : b ≤ e) (he : e ≤ N) (h63 : e - b ≤ 63) (x2 : Int32) (x3 : Int64) :
    ∃ mnm' msp' mlt' mna' mns' mst' mco', f_M_enter mnm msp mli mlt mna mns mst mco mbe men (nI t) x2 x3 = some (mnm', msp', mlt', mna', mns', mst', mco') ∧ KM (nl ++ [(e - b, fun i => B (b + i), x2, x3)]) mnm' msp' mlt' mna' mns' mst' mco' := by
  have hN := h.1
  obtain ⟨hm, sp, hsp, hs, hk⟩ := hk
  unfold f_M_enter
  rw [hm, hs, gi_nI (show nl.length < 2200 by omega) (by decide), gi_nI ht (by decide), gi_nI ht (by decide), gi_nI (show nl.length < 2200 by omega) (by decide), gi_nI ht (by decide), nI_clamp (show t < 2 ^ 31 by omega), nI_clamp (show nl.length < 2 ^ 31 by omega), hbe, hen, pk_sub hb]
  obtain ⟨mlt', h1, h2, h3⟩ := M_enter_l h (mlt0 := mlt) (mna := upd mna nl.length (nI sp)) (mns := upd mns nl.length (nI (e - b))) (mst := mst) (mco := mco) (mbe := mbe) (show nl.length < 2200 by omega) rfl ht hen hb he (show sp + (e - b) ≤ 40000 by omega) x2 x3 FU b mlt (by omega) (by omega) (by unfold FU; omega) (fun j _ => rfl) (fun j hj => by omega)
  rw [Nat.sub_self, Nat.add_zero] at h1
  refine ⟨_, _, _, _, _, _, _, h1, by rw [List.length_append]; rfl, sp + (e - b), by rw [List.length_append, List.length_singleton]; omega, rfl, fun j m hj => ?_⟩
  rcases app_get hj with ⟨g1, g2⟩ | ⟨g1, g2⟩
  · obtain ⟨a, ha, k1, k2, k3, k4, k5⟩ := hk j m g1
    refine ⟨a, by omega, by rw [upd_ne _ _ g2]; exact k1, by rw [upd_ne _ _ g2]; exact k2, fun i hi => by rw [h2 (a + i) (by omega)]; exact k3 i hi, by rw [upd_ne _ _ g2]; exact k4, by rw [updL_ne _ _ g2]; exact k5⟩
  · rw [g1, g2]
    exact ⟨sp, by show sp + (e - b) ≤ sp + (e - b); omega, by rw [upd_at], by rw [upd_at], fun i hi => h3 i hi, by rw [upd_at], by rw [updL_at]⟩
end
