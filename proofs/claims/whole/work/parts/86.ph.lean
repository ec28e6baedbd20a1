/-! the class's waiting signs -/
def wcd (w : Nat) : Int32 := if 1000 < w then -(nI (w - 1000)) else nI w
def WC : List Nat → (Nat → Int32) → Prop
  | [], _ => True
  | w :: W, f => f W.length = wcd w ∧ WC W f
def GW (w : Nat) : Prop := w = 40 ∨ 1 ≤ rk w ∨ 1000 < w ∧ pfx (w - 1000) = true
theorem WC_fr {f g : Nat → Int32} : ∀ (W : List Nat), (∀ j, j < W.length → g j = f j) → WC W f → WC W g := by
  intro W
  induction W with
  | nil => intro _ _; trivial
  | cons w W ih =>
    intro hf h
    exact ⟨by rw [hf W.length (by rw [List.length_cons]; omega)]; exact h.1, ih (fun j hj => hf j (by rw [List.length_cons]; omega)) h.2⟩
theorem pfx_c {c : Nat} (h : pfx c = true) : c = 45 ∨ c = 126 ∨ c = 43 := by
  unfold pfx at h
  simp at h
  omega
theorem wcd_pre {w : Nat} (h : 1000 < w) : wcd w = -(nI (w - 1000)) := if_pos h
theorem wcd_bin {w : Nat} (h : ¬ 1000 < w) : wcd w = nI w := if_neg h
theorem GW.r {w : Nat} (h : GW w) : f_X_rankOf (wcd w) = some (nI (rkw w)) ∧ rkw w ≤ 7 := by
  rcases h with h | h | ⟨h1, h2⟩
  · rw [h]; exact ⟨by decide +kernel, by decide⟩
  · have := rk_bin h
    unfold rkw
    rw [wcd_bin (by omega), if_neg (by omega), X_rank_k w (by omega)]
    exact ⟨rfl, by have := rk_le w; omega⟩
  · have h3 : rkw w = 7 := if_pos h1
    rw [wcd_pre h1, h3]
    rcases pfx_c h2 with z | z | z <;> rw [z] <;> exact ⟨by decide +kernel, by decide⟩
theorem ap_len (r : Nat) : ∀ W V, (ap r W V).1.length ≤ W.length ∧ (ap r W V).2.length ≤ V.length ∧ ∀ w ∈ (ap r W V).1, w ∈ W := by
  intro W
  induction W with
  | nil => intro V; exact ⟨Nat.le_refl _, Nat.le_refl _, fun w h => h⟩
  | cons w W ih =>
    intro V
    unfold ap
    by_cases c : rkw w < r
    · rw [if_pos c]; exact ⟨Nat.le_refl _, Nat.le_refl _, fun w h => h⟩
    · rw [if_neg c]
      have hv : (if 1000 < w then apf (w - 1000) V else apb w V).length ≤ V.length := by
        by_cases d : 1000 < w
        · rw [if_pos d]; cases V <;> exact Nat.le_refl _
        · rw [if_neg d]
          rcases V with _ | ⟨b, _ | ⟨a, V⟩⟩
          · exact Nat.le_refl _
          · exact Nat.le_refl _
          · show (jn w a b :: V).length ≤ _
            rw [List.length_cons, List.length_cons, List.length_cons]; omega
      obtain ⟨h1, h2, h3⟩ := ih (if 1000 < w then apf (w - 1000) V else apb w V)
      exact ⟨by rw [List.length_cons]; omega, by omega, fun w h => List.mem_cons_of_mem _ (h3 w h)⟩
theorem X_apply_l {xw : Nat → Int32} {r : Nat} (hr : 1 ≤ r ∧ r ≤ 7) :
    ∀ n (W : List Nat) (V : List Vl) vn vd vc vp vo, W.length < n → W.length ≤ 1024 → WC W xw → (∀ w ∈ W, GW w) → VS V vn vd vc vp vo → ∃ vn' vd' vc' vp' vo', f_X_applyWaiting_l7 n (nI W.length) xw vn vd vc vp vo (nI r) (nI W.length + -1) = some (nI (ap r W V).1.length, vn', vd', vc', vp', vo') ∧ VS (ap r W V).2 vn' vd' vc' vp' vo' ∧ WC (ap r W V).1 xw := by
  intro n
  induction n with
  | zero => intro W V vn vd vc vp vo h1; omega
  | succ n ih =>
    intro W V vn vd vc vp vo h1 h2 hW hg hV
    unfold f_X_applyWaiting_l7
    cases W with
    | nil =>
      rw [if_pos (show nI ([] : List Nat).length + -1 < 0 by decide)]
      exact ⟨_, _, _, _, _, rfl, hV, trivial⟩
    | cons w W =>
      rw [List.length_cons] at h1 h2 ⊢
      obtain ⟨w1, w2⟩ := hW
      obtain ⟨g1, g2⟩ := (hg w List.mem_cons_self).r
      have hgW : ∀ w ∈ W, GW w := fun w h => hg w (List.mem_cons_of_mem _ h)
      rw [nI_m1, if_neg (nI_pos (by omega)), gi_nI (by omega) (by decide), nI_clamp (by omega), w1, g1, Option.bind_some]
      unfold ap
      have hlt : nI (rkw w) < nI r ↔ rkw w < r := nI_ltI (by omega) (by omega)
      by_cases c : rkw w < r
      · rw [if_pos (hlt.mpr c), if_pos c]
        refine ⟨_, _, _, _, _, rfl, hV, w1, w2⟩
      · rw [if_neg (fun z => c (hlt.mp z)), if_neg c, gi_nI (by omega) (by decide)]
        by_cases d : 1000 < w
        · rw [if_pos d]
          have hp : pfx (w - 1000) = true := by
            rcases hg w List.mem_cons_self with z | z | z
            · omega
            · have := rk_bin z; omega
            · exact z.2
          have hneg : ¬ (0 : Int32) ≤ wcd w := by rw [wcd_pre d]; rcases pfx_c hp with z | z | z <;> rw [z] <;> decide
          have hnn : -(wcd w) = nI (w - 1000) := by rw [wcd_pre d]; rcases pfx_c hp with z | z | z <;> rw [z] <;> decide
          rw [if_neg hneg, hnn]
          obtain ⟨vd1, vc1, k1, k2⟩ := V_front hV hp
          rw [k1, Option.bind_some]
          exact ih W (apf (w - 1000) V) vn vd1 vc1 vp vo (by omega) (by omega) w2 hgW k2
        · rw [if_neg d]
          have hb : 1 ≤ rk w := by
            unfold rkw at c
            rw [if_neg d] at c
            omega
          have := rk_bin hb
          rw [wcd_bin d, if_pos (nI_pos' (by omega))]
          obtain ⟨vn1, vd1, vc1, vp1, vo1, k1, k2⟩ := V_apb hV hb
          rw [k1, Option.bind_some]
          exact ih W (apb w V) vn1 vd1 vc1 vp1 vo1 (by omega) (by omega) w2 hgW k2
theorem X_apply {xw : Nat → Int32} {r : Nat} (hr : 1 ≤ r ∧ r ≤ 7) {W : List Nat} {V : List Vl} {vn vd : Int32} {vc : Nat → Int64} {vp vo : Nat → Int32} (hl : W.length ≤ 1024) (hW : WC W xw) (hg : ∀ w ∈ W, GW w) (hV : VS V vn vd vc vp vo) :
    ∃ vn' vd' vc' vp' vo', f_X_applyWaiting (nI W.length) xw vn vd vc vp vo (nI r) = some (nI (ap r W V).1.length, vn', vd', vc', vp', vo') ∧ VS (ap r W V).2 vn' vd' vc' vp' vo' ∧ WC (ap r W V).1 xw := by
  unfold f_X_applyWaiting
  rw [Int32.sub_eq_add_neg]
  exact X_apply_l hr FU W V vn vd vc vp vo (by unfold FU; omega) hl hW hg hV
set_option maxRecDepth 20000 in
theorem nar_c : ∀ c, c < 256 → (c = 40 ∨ 1 ≤ rk c) → vp_nar .byte (nI c).toInt8.toInt32 = nI c := by decide +kernel
theorem X_letWait {xw : Nat → Int32} {W : List Nat} (hW : WC W xw) (hl : W.length < 1024) {w : Nat} (hw : GW w) :
    ∃ xw', f_X_letWait (nI W.length) xw (wcd w) = some (nI (w :: W).length, xw') ∧ WC (w :: W) xw' := by
  unfold f_X_letWait
  rw [if_neg (show ¬ (1024 : Int32) ≤ nI W.length from nI_ge (b := 1024) hl (by decide)), gi_nI hl (by decide), nI_clamp (by omega), nI_1]
  refine ⟨_, rfl, ?_, WC_fr W (fun j hj => upd_ne _ _ (by omega)) hW⟩
  rw [upd_at]
  rcases hw with h | h | ⟨h1, h2⟩
  · rw [h]; decide +kernel
  · have := rk_bin h
    rw [wcd_bin (by omega)]
    exact nar_c w (by omega) (Or.inr h)
  · rw [wcd_pre h1]
    rcases pfx_c h2 with z | z | z <;> rw [z] <;> decide +kernel
section
variable {N : Nat} {B : Nat → Nat} {ts : List Tk} {tn : Int32} {tk tb te : Nat → Int32} {tw : Nat → Int64}
theorem X_pushOp (h : TR ts tn tk tb te tw) (hg : TG N ts) {nl : List Nm} {kn : Int32} {kq : Nat → Option Nat} {ns : List NmR} (hk : KR nl kn kq ns) {xm : Nat → Option Nat} (hx : ∀ j t, ts[j]? = some t → xm j = mng B nl kq t) {k : Nat} {t : Tk} (ht : ts[k]? = some t) (h0 : (itm B nl t).1 = 0) (vn : Int32) (vc : Nat → Int64) (vp vo : Nat → Int32) :
    f_X_pushOperand xm vn vc vp vo tn tk tw ns (nI k) = f_V_push vn vc vp vo (itm B nl t).2.1 (itm B nl t).2.2 := by
  have hN := hg.1
  have hl := hg.2.1
  have c : k < ts.length := (List.getElem?_eq_some_iff.mp ht).1
  have hgt := hg.2.2 t (List.mem_of_getElem? ht)
  have hkk := hgt.k
  have eta : ∀ v : Option (Int32 × (Nat → Int64) × (Nat → Int32) × (Nat → Int32)), v.bind (fun o => some (o.1, o.2.1, o.2.2.1, o.2.2.2)) = v := fun v => by cases v <;> rfl
  unfold f_X_pushOperand
  rw [X_mean (by omega), Option.bind_some, hx k t ht]
  rcases mng_nm (B := B) hk t with ⟨h1, h2⟩ | ⟨z, r, m, j, h1, h2, h3, h4, h5, h6, h7⟩
  · rw [h1, oc_none, T_sign h hg ht, Option.bind_some]
    by_cases d : t.1 = 1
    · rw [sgc_n (by omega), if_neg (show ¬ nI 0 = (36 : Int32) by decide), T_worth h hg ht, Option.bind_some, (h2 d).2, eta]
      have : t.2.2.2 = 0 := by
        rcases hgt.2.2 with ⟨_, q, _⟩ | q | ⟨q, _⟩ | ⟨q, _⟩
        · exact q
        · omega
        · omega
        · omega
      rw [this]
    · by_cases e : t.1 = 2
      · rw [sgc_n (by omega), if_neg (show ¬ nI 0 = (36 : Int32) by decide), T_worth h hg ht, Option.bind_some, itm_2 e, eta]
      · by_cases f : t.1 = 3
        · rw [itm_3 f] at h0; exact absurd (show (1 : Nat) = 0 from h0) (by decide)
        · have f4 : t.1 = 4 := by omega
          rw [itm_sg hgt f4] at h0 ⊢
          have g := sgc_4 hgt f4
          by_cases g36 : sgc t = 36
          · rw [if_pos g36, if_pos (show nI (sgc t) = (36 : Int32) by rw [g36]; rfl), eta]
          · rw [if_neg g36] at h0
            have h0 : sgc t = 0 := h0
            omega
  · rw [h1, oc_some, h2, Option.bind_some, Option.bind_some, eta, h3.2.2.2.1, h3.2.2.2.2, h7]
    by_cases e : m.2.2.1 = -1
    · rw [h7, if_pos e] at h0; exact absurd (show (1 : Nat) = 0 from h0) (by decide)
    · rw [if_neg e]
theorem X_work_l (h : TR ts tn tk tb te tw) (hg : TG N ts) {nl : List Nm} {kn : Int32} {kq : Nat → Option Nat} {ns : List NmR} (hk : KR nl kn kq ns) {xm : Nat → Option Nat} (hx : ∀ j t, ts[j]? = some t → xm j = mng B nl kq t) (pr : Bool) :
    ∀ n k (due : Bool) o (W : List Nat) (V : List Vl) xw vn vd vc vp vo, k ≤ ts.length → ts.length - k < n → okx pr ((ts.map (itm B nl)).drop k) due o = true → W.length ≤ k → 2 * V.length ≤ k + (if due = true then 0 else 1) → WC W xw → (∀ w ∈ W, GW w) → VS V vn vd vc vp vo →
      ∃ xn' xw' vn' vd' vc' vp' vo', f_X_workOut_l16 n (nI W.length) xm xw vn vd vc vp vo tn tk tw ns (b01 due) (nI k) = some (xn', xw', vn', vd', vc', vp', vo') ∧ VS (fin (run (rl ((ts.map (itm B nl)).drop k) due) (W, V))) vn' vd' vc' vp' vo' := by
  have hN := hg.1
  have hl := hg.2.1
  intro n
  induction n with
  | zero => intro k due o W V xw vn vd vc vp vo h1 h2; omega
  | succ n ih =>
    intro k due o W V xw vn vd vc vp vo h1 h2 hok hWl hVl hW hgW hV
    unfold f_X_workOut_l16
    rw [show f_T_size tn = some tn from rfl, Option.bind_some, h.1]
    by_cases c : k < ts.length
    · rw [drop_map _ c] at hok ⊢
      have ht := List.getElem?_eq_getElem c
      generalize ts[k] = t at ht hok ⊢
      have hgt := hg.2.2 t (List.mem_of_getElem? ht)
      have hsl := sgc_lt hgt
      have hcode := itm_code (B := B) hk hgt
      rw [if_neg (nI_ge c (by omega)), ← h.1, T_sign h hg ht, Option.bind_some, nI_1]
      unfold okx at hok
      unfold rl
      cases due with
      | true =>
        rw [if_pos rfl] at hok hVl
        rw [if_neg (show ¬ b01 true = 0 by decide), X_isOperand h hg hk hx ht, Option.bind_some, if_pos (show true = true from rfl)]
        rw [if_neg (show ¬ (1 : Int32) = 0 by decide), if_pos (show (0 : Int32) = 0 from rfl)]
        by_cases a : (itm B nl t).1 = 0
        · rw [if_pos a] at hok
          rw [if_neg (show ¬ b01 ((itm B nl t).1 == 0) = 0 by rw [a]; decide), if_pos a, X_pushOp h hg hk hx ht a]
          obtain ⟨vn1, vc1, vp1, vo1, k1, k2⟩ := V_push hV (by omega) (itm B nl t).2.1 (itm B nl t).2.2
          rw [k1, Option.bind_some, run_cons, stp_0]
          exact ih (k + 1) false o W _ xw vn1 vd vc1 vp1 vo1 (by omega) (by omega) hok (by omega) (by rw [List.length_cons, if_neg (by decide)]; omega) hW hgW k2
        · rw [if_neg a] at hok
          rw [if_pos (show b01 ((itm B nl t).1 == 0) = 0 from b01_eq (by simpa using a)), if_neg a]
          have e40 : nI (sgc t) = (40 : Int32) ↔ sgc t = 40 := nI_lit hsl (by decide)
          have hxs : (itm B nl t).1 = sgc t := by
            rcases hcode with ⟨h3, h4⟩ | ⟨h3, h4⟩ | ⟨h3, h4⟩
            · exact absurd h3 a
            · rw [h3, if_neg (by decide), if_neg (by decide)] at hok; cases hok
            · exact h3
          rw [hxs] at hok ⊢
          by_cases b : sgc t = 40
          · rw [if_pos b] at hok
            rw [if_pos (e40.mpr b), if_pos b, b]
            obtain ⟨xw1, k1, k2⟩ := X_letWait hW (by omega) (w := 40) (Or.inl rfl)
            rw [show nI 40 = wcd 40 from rfl, k1, Option.bind_some, run_cons, stp_40]
            exact ih (k + 1) true (o + 1) (40 :: W) V xw1 vn vd vc vp vo (by omega) (by omega) hok (by rw [List.length_cons]; omega) (by rw [if_pos rfl]; omega) k2 (fun w hw => by
              rcases List.mem_cons.mp hw with rfl | hw
              · exact Or.inl rfl
              · exact hgW w hw) hV
          · rw [if_neg b] at hok
            rw [if_neg (fun z => b (e40.mp z)), if_neg b]
            by_cases e : pfx (sgc t) = true
            · rw [if_pos e] at hok
              have gw : GW (1000 + sgc t) := Or.inr (Or.inr ⟨by have := pfx_c e; omega, by rw [show 1000 + sgc t - 1000 = sgc t by omega]; exact e⟩)
              have h1000 : 1000 < 1000 + sgc t := by have := pfx_c e; omega
              obtain ⟨xw1, k1, k2⟩ := X_letWait hW (by omega) gw
              rw [wcd_pre h1000, show 1000 + sgc t - 1000 = sgc t by omega] at k1
              rw [k1, Option.bind_some, run_cons, stp_pre h1000]
              exact ih (k + 1) true o ((1000 + sgc t) :: W) V xw1 vn vd vc vp vo (by omega) (by omega) hok (by rw [List.length_cons]; omega) (by rw [if_pos rfl]; omega) k2 (fun w hw => by
                rcases List.mem_cons.mp hw with rfl | hw
                · exact gw
                · exact hgW w hw) hV
            · rw [if_neg e] at hok; cases hok
      | false =>
        rw [if_neg (show ¬ false = true by decide)] at hok hVl
        rw [if_pos (show b01 false = 0 from rfl), if_neg (show ¬ false = true by decide)]
        have e41 : nI (sgc t) = (41 : Int32) ↔ sgc t = 41 := nI_lit hsl (by decide)
        have bad : sgc t = 0 ∨ sgc t = 36 → rk (sgc t) = 0 := by rintro (z | z) <;> rw [z] <;> decide
        have hx1 : (itm B nl t).1 = 41 ↔ sgc t = 41 := by rcases hcode with ⟨h3, h4⟩ | ⟨h3, h4⟩ | ⟨h3, h4⟩ <;> omega
        by_cases d : sgc t = 41
        · rw [if_pos (hx1.mpr d)] at hok
          rw [if_pos (e41.mpr d), if_pos (hx1.mpr d)]
          by_cases o0 : o = 0
          · rw [if_pos o0] at hok; cases hok
          · rw [if_neg o0] at hok
            obtain ⟨vn1, vd1, vc1, vp1, vo1, k1, k2, k3⟩ := X_apply (r := 1) (by omega) (by omega) hW hgW hV
            obtain ⟨l1, l2, l3⟩ := ap_len 1 W V
            rw [show (1 : Int32) = nI 1 from rfl, k1, Option.bind_some]
            dsimp only
            have hd : f_X_dropBracket (nI (ap 1 W V).1.length) = some (nI (ap 1 W V).1.tail.length) := by
              unfold f_X_dropBracket
              cases hq : (ap 1 W V).1 with
              | nil => rfl
              | cons w r =>
                rw [hq, List.length_cons] at l1
                rw [List.length_cons, if_neg (nI_nle (by omega) (by omega)), nI_pred]
                rfl
            rw [hd, Option.bind_some, run_cons, stp_41]
            have k3' : WC (ap 1 W V).1.tail xw := by
              cases hq : (ap 1 W V).1 with
              | nil => trivial
              | cons w r => rw [hq] at k3; exact k3.2
            have lt : (ap 1 W V).1.tail.length ≤ (ap 1 W V).1.length := by rw [List.length_tail]; omega
            exact ih (k + 1) false (o - 1) _ _ xw vn1 vd1 vc1 vp1 vo1 (by omega) (by omega) hok (by omega) (by rw [if_neg (by decide)]; omega) k3' (fun w hw => hgW w (l3 w (List.mem_of_mem_tail hw))) k2
        · rw [if_neg (fun z => d (hx1.mp z))] at hok
          rw [if_neg (fun z => d (e41.mp z)), if_neg (fun z => d (hx1.mp z))]
          by_cases b : (if pr = true ∧ o = 0 then 6 else 1) ≤ rk (itm B nl t).1
          · rw [if_pos b] at hok
            have hb : 1 ≤ rk (itm B nl t).1 := by
              by_cases q : pr = true ∧ o = 0
              · rw [if_pos q] at b; omega
              · rw [if_neg q] at b; exact b
            have hxs : (itm B nl t).1 = sgc t := by
              rcases hcode with ⟨h3, h4⟩ | ⟨h3, h4⟩ | ⟨h3, h4⟩
              · rw [h3] at hb; exact absurd hb (by decide)
              · rw [h3] at hb; exact absurd hb (by decide)
              · exact h3
            rw [hxs] at hb ⊢
            have hb2 := rk_bin hb
            have hr6 := rk_le (sgc t)
            obtain ⟨vn1, vd1, vc1, vp1, vo1, k1, k2, k3⟩ := X_apply (r := rk (sgc t)) (by omega) (by omega) hW hgW hV
            obtain ⟨l1, l2, l3⟩ := ap_len (rk (sgc t)) W V
            rw [X_rank_k _ hsl, Option.bind_some, k1, Option.bind_some]
            dsimp only
            obtain ⟨xw1, m1, m2⟩ := X_letWait k3 (by omega) (w := sgc t) (Or.inr (Or.inl hb))
            rw [wcd_bin (by omega)] at m1
            rw [m1, Option.bind_some, run_cons, stp_bin hb]
            exact ih (k + 1) true o _ _ xw1 vn1 vd1 vc1 vp1 vo1 (by omega) (by omega) hok (by rw [List.length_cons]; omega) (by rw [if_pos rfl]; omega) m2 (fun w hw => by
                rcases List.mem_cons.mp hw with rfl | hw
                · exact Or.inr (Or.inl hb)
                · exact hgW w (l3 w hw)) k2
          · rw [if_neg b] at hok; cases hok
    · rw [drop_nil _ c, if_pos (nI_le (by omega) (by omega))]
      obtain ⟨vn1, vd1, vc1, vp1, vo1, k1, k2, k3⟩ := X_apply (r := 1) (by omega) (by omega) hW hgW hV
      rw [show (1 : Int32) = nI 1 from rfl, k1, Option.bind_some]
      exact ⟨_, _, _, _, _, _, _, rfl, k2⟩
theorem X_work (h : TR ts tn tk tb te tw) (hg : TG N ts) {nl : List Nm} {kn : Int32} {kq : Nat → Option Nat} {ns : List NmR} (hk : KR nl kn kq ns) {xm : Nat → Option Nat} (hx : ∀ j t, ts[j]? = some t → xm j = mng B nl kq t) {pr : Bool} (hok : okx pr (ts.map (itm B nl)) true 0 = true) (xn : Int32) (xw : Nat → Int32) (vn vd : Int32) (vc : Nat → Int64) (vp vo : Nat → Int32) :
    ∃ xn' xw' vn' vd' vc' vp' vo', f_X_workOut xn xm xw vn vd vc vp vo tn tk tw ns = some (xn', xw', vn', vd', vc', vp', vo') ∧ VS (SY (rl (ts.map (itm B nl)) true)) vn' vd' vc' vp' vo' := by
  have hN := hg.1
  have hl := hg.2.1
  unfold f_X_workOut
  rw [show f_V_clear vn vd = some (0, 0) from rfl, Option.bind_some]
  exact X_work_l h hg hk hx pr FU 0 true 0 [] [] xw 0 0 vc vp vo (by omega) (by unfold FU; omega) hok (by simp) (by simp) trivial (fun w hw => nomatch hw) ⟨rfl, rfl, trivial, by simp⟩
end
