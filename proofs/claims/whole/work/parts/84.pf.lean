/-! WORTH: what signs do with values (none: odd) -/
def frt (c : Nat) (v : Vl) : Vl := v.bind (fun x => if c = 43 then some x else if x.2.1 = -1 then some (if c = 45 then -x.1 else x.1 ^^^ (-1), x.2.1, x.2.2) else none)
def comb (c : Nat) (x y : Int64) : Option Int64 := if c = 38 then some (x &&& y) else if c = 42 then some (x * y) else if c = 60 then some (x <<< (((y &&& (63 : Int64)).toInt32).toInt64 &&& 63)) else if c = 62 then some ((x.toUInt64 >>> (((y &&& (63 : Int64)).toInt32).toInt64.toUInt64 &&& Int64.toUInt64 63)).toInt64) else if c = 94 then some (x ^^^ y) else if c = 124 then some (x ||| y) else if y = 0 then none else if c = 47 then some (x / y) else some (x - x / y * y)
def jn (c : Nat) (a b : Vl) : Vl := a.bind (fun x => b.bind (fun y =>
  if c = 43 then (if x.2.1 = -1 then some (x.1 + y.1, y.2.1, y.2.2) else if y.2.1 = -1 then some (x.1 + y.1, x.2.1, x.2.2) else none)
  else if c = 45 then (if y.2.1 = -1 then some (x.1 - y.1, x.2.1, x.2.2) else if x.2.1 ≠ -1 ∧ x.2.2 = -1 ∧ y.2.2 = -1 then some (x.1 - y.1, x.2.1, y.2.1) else none)
  else if x.2.1 = -1 ∧ y.2.1 = -1 then (comb c x.1 y.1).bind (fun z => some (z, x.2.1, x.2.2)) else none))
def rkw (w : Nat) : Nat := if 1000 < w then 7 else rk w
def apf (c : Nat) (V : List Vl) : List Vl := match V with
  | [] => []
  | v :: r => frt c v :: r
def apb (c : Nat) (V : List Vl) : List Vl := match V with
  | b :: a :: r => jn c a b :: r
  | V => V
def ap (r : Nat) : List Nat → List Vl → List Nat × List Vl
  | [], V => ([], V)
  | w :: W, V => if rkw w < r then (w :: W, V) else ap r W (if 1000 < w then apf (w - 1000) V else apb w V)
def stp (s : List Nat × List Vl) (x : RI) : List Nat × List Vl :=
  if x.1 = 0 then (s.1, x.2 :: s.2) else if x.1 = 40 ∨ 1000 < x.1 then (x.1 :: s.1, s.2) else if x.1 = 41 then ((ap 1 s.1 s.2).1.tail, (ap 1 s.1 s.2).2) else (x.1 :: (ap (rk x.1) s.1 s.2).1, (ap (rk x.1) s.1 s.2).2)
def run (L : List RI) (s : List Nat × List Vl) : List Nat × List Vl := L.foldl stp s
def fin (s : List Nat × List Vl) : List Vl := (ap 1 s.1 s.2).2
def SY (L : List RI) : List Vl := fin (run L ([], []))
theorem run_app (A C : List RI) (s : List Nat × List Vl) : run (A ++ C) s = run C (run A s) := List.foldl_append
theorem run_cons (x : RI) (C : List RI) (s : List Nat × List Vl) : run (x :: C) s = run C (stp s x) := rfl
theorem rk_bin {c : Nat} (h : 1 ≤ rk c) : c ≠ 0 ∧ c ≠ 40 ∧ c ≠ 41 ∧ c < 256 ∧ c ≠ 1 := by
  unfold rk at h
  by_cases h1 : c = 37 ∨ c = 42 ∨ c = 47
  · omega
  · by_cases h2 : c = 43 ∨ c = 45
    · omega
    · by_cases h3 : c = 60 ∨ c = 62
      · omega
      · by_cases h4 : c = 38
        · omega
        · by_cases h5 : c = 94
          · omega
          · by_cases h6 : c = 124
            · omega
            · rw [if_neg h1, if_neg h2, if_neg h3, if_neg h4, if_neg h5, if_neg h6] at h; omega
theorem stp_0 (W : List Nat) (V : List Vl) (v : Vl) : stp (W, V) (0, v) = (W, v :: V) := if_pos rfl
theorem stp_40 (W : List Nat) (V : List Vl) (v : Vl) : stp (W, V) (40, v) = (40 :: W, V) := by
  unfold stp
  rw [if_neg (show ¬ (40, v).1 = 0 from fun z => by cases z), if_pos (Or.inl rfl)]
theorem stp_pre {w : Nat} (h : 1000 < w) (W : List Nat) (V : List Vl) (v : Vl) : stp (W, V) (w, v) = (w :: W, V) := by
  unfold stp
  rw [if_neg (show ¬ (w, v).1 = 0 from fun z => by have z : w = 0 := z; omega), if_pos (Or.inr h)]
theorem stp_41 (W : List Nat) (V : List Vl) (v : Vl) : stp (W, V) (41, v) = ((ap 1 W V).1.tail, (ap 1 W V).2) := by
  unfold stp
  rw [if_neg (show ¬ (41, v).1 = 0 from fun z => by cases z), if_neg (show ¬ ((41, v).1 = 40 ∨ 1000 < (41, v).1) from fun z => by have z : (41 : Nat) = 40 ∨ 1000 < 41 := z; omega), if_pos rfl]
theorem stp_bin {c : Nat} (h : 1 ≤ rk c) (W : List Nat) (V : List Vl) (v : Vl) : stp (W, V) (c, v) = (c :: (ap (rk c) W V).1, (ap (rk c) W V).2) := by
  have := rk_bin h
  unfold stp
  rw [if_neg (show ¬ (c, v).1 = 0 from fun z => by have z : c = 0 := z; omega), if_neg (show ¬ ((c, v).1 = 40 ∨ 1000 < (c, v).1) from fun z => by have z : c = 40 ∨ 1000 < c := z; omega), if_neg (show ¬ (c, v).1 = 41 from fun z => by have z : c = 41 := z; omega)]
/-- what may stand behind an operand, of strength s at most -/
def opn (s : Nat) (C : List RI) : Prop := ∀ x r, C = x :: r → x.1 = 41 ∨ 1 ≤ rk x.1 ∧ rk x.1 ≤ s
theorem fin_same {s : Nat} {C : List RI} (h : opn s C) {W W' : List Nat} {V V' : List Vl} (hs : 1 ≤ s) (ha : ∀ r, 1 ≤ r → r ≤ s → ap r W V = ap r W' V') : fin (run C (W, V)) = fin (run C (W', V')) := by
  cases C with
  | nil =>
    show (ap 1 W V).2 = (ap 1 W' V').2
    rw [ha 1 (by omega) hs]
  | cons x r =>
    rw [run_cons, run_cons]
    obtain ⟨c, v⟩ := x
    rcases h (c, v) r rfl with h1 | ⟨h1, h2⟩
    · have h1 : c = 41 := h1
      rw [h1, stp_41, stp_41, ha 1 (by omega) hs]
    · rw [stp_bin h1, stp_bin h1, ha _ h1 h2]
theorem SY_front (A C : List RI) {w : Nat} (hw : 1000 < w) (z v : Vl) (hC : opn 6 C) : SY (A ++ (w, z) :: (0, v) :: C) = SY (A ++ (0, frt (w - 1000) v) :: C) := by
  unfold SY
  rw [run_app, run_app]
  obtain ⟨W, V⟩ := run A ([], [])
  rw [run_cons, run_cons, run_cons, stp_pre hw, stp_0, stp_0]
  refine fin_same hC (by omega) (fun r h1 h2 => ?_)
  conv => lhs; unfold ap
  rw [if_neg (show ¬ rkw w < r by unfold rkw; rw [if_pos hw]; omega), if_pos hw]
  rfl
def topr (s : Nat) (W : List Nat) : Prop := ∀ w r, W = w :: r → rkw w < s
theorem ap_top {s : Nat} {W : List Nat} (h : topr s W) (V : List Vl) : ap s W V = (W, V) := by
  cases W with
  | nil => rfl
  | cons w r => unfold ap; rw [if_pos (h w r rfl)]
theorem SY_join (A C : List RI) {c : Nat} (hc : 1 ≤ rk c) (a z b : Vl) (hA : topr (rk c) (run A ([], [])).1) (hC : opn (rk c) C) : SY (A ++ (0, a) :: (c, z) :: (0, b) :: C) = SY (A ++ (0, jn c a b) :: C) := by
  unfold SY
  rw [run_app, run_app]
  generalize run A ([], []) = s at hA ⊢
  obtain ⟨W, V⟩ := s
  have hb := rk_bin hc
  rw [run_cons, run_cons, run_cons, run_cons, stp_0, stp_0, stp_bin hc, ap_top hA, stp_0]
  refine fin_same hC hc (fun r h1 h2 => ?_)
  conv => lhs; unfold ap
  rw [if_neg (show ¬ rkw c < r by unfold rkw; rw [if_neg (by omega)]; omega), if_neg (by omega)]
  rfl
theorem SY_brack (A C : List RI) (z v z' : Vl) : SY (A ++ (40, z) :: (0, v) :: (41, z') :: C) = SY (A ++ (0, v) :: C) := by
  unfold SY
  rw [run_app, run_app]
  obtain ⟨W, V⟩ := run A ([], [])
  rw [run_cons, run_cons, run_cons, run_cons, stp_40, stp_0, stp_41, stp_0]
  have : ap 1 (40 :: W) (v :: V) = (40 :: W, v :: V) := by unfold ap; rw [if_pos (by decide)]
  rw [this]
  rfl
theorem SY_one (v : Vl) : SY [(0, v)] = [v] := by
  unfold SY
  rw [run_cons, stp_0]
  rfl
theorem top_40 (A : List RI) (z : Vl) {s : Nat} (hs : 1 ≤ s) : topr s (run (A ++ [(40, z)]) ([], [])).1 := by
  rw [run_app]
  obtain ⟨W, V⟩ := run A ([], [])
  rw [run_cons, stp_40]
  intro w r h
  have h : 40 :: W = w :: r := h
  rw [← (List.cons.inj h).1]
  show rk 40 < s
  have : rk 40 = 0 := by decide
  omega
theorem top_bin (A : List RI) {c : Nat} (hc : 1 ≤ rk c) (z : Vl) {s : Nat} (hs : rk c < s) : topr s (run (A ++ [(c, z)]) ([], [])).1 := by
  rw [run_app]
  obtain ⟨W, V⟩ := run A ([], [])
  rw [run_cons, stp_bin hc]
  intro w r h
  have h : c :: (ap (rk c) W V).1 = w :: r := h
  rw [← (List.cons.inj h).1]
  have := rk_bin hc
  unfold rkw
  rw [if_neg (by omega)]
  exact hs
theorem top_nil (s : Nat) : topr s (run [] ([], [])).1 := fun w r h => nomatch h
/-- well formed lists of items -/
def gr : List RI → Bool → Nat → Bool
  | [], due, o => !due && o == 0
  | x :: r, due, o => if due = true then (if x.1 = 0 then gr r false o else if x.1 = 40 then gr r true (o + 1) else if 1000 < x.1 ∧ pfx (x.1 - 1000) = true then gr r true o else false)
    else if x.1 = 41 then (if o = 0 then false else gr r false (o - 1)) else if 1 ≤ rk x.1 then gr r true o else false
theorem gr_rl {pr : Bool} : ∀ (its : List It) due o, okx pr its due o = true → gr (rl its due) due o = true := by
  intro its
  induction its with
  | nil => intro due o h; exact h
  | cons x r ih =>
    intro due o h
    unfold okx at h
    unfold rl
    cases due with
    | true =>
      rw [if_pos rfl] at h ⊢
      by_cases a : x.1 = 0
      · rw [if_pos a] at h ⊢
        unfold gr
        rw [if_pos rfl, if_pos rfl]
        exact ih _ _ h
      · rw [if_neg a] at h ⊢
        by_cases b : x.1 = 40
        · rw [if_pos b] at h ⊢
          unfold gr
          rw [if_pos rfl, if_neg (show ¬ (40, sgv).1 = 0 from fun z => by cases z), if_pos rfl]
          exact ih _ _ h
        · rw [if_neg b] at h ⊢
          by_cases c : pfx x.1 = true
          · rw [if_pos c] at h
            have hx : x.1 = 45 ∨ x.1 = 126 ∨ x.1 = 43 := by
              unfold pfx at c
              simp at c
              omega
            unfold gr
            rw [if_pos rfl]
            dsimp only
            rw [if_neg (show ¬ 1000 + x.1 = 0 by omega), if_neg (show ¬ 1000 + x.1 = 40 by omega), if_pos (show 1000 < 1000 + x.1 ∧ pfx (1000 + x.1 - 1000) = true from ⟨by omega, by rw [show 1000 + x.1 - 1000 = x.1 by omega]; exact c⟩)]
            exact ih _ _ h
          · rw [if_neg c] at h; cases h
    | false =>
      rw [if_neg (show ¬ false = true by decide)] at h ⊢
      by_cases a : x.1 = 41
      · rw [if_pos a] at h ⊢
        unfold gr
        rw [if_neg (show ¬ false = true by decide)]
        dsimp only
        rw [if_pos rfl]
        by_cases b : o = 0
        · rw [if_pos b] at h; cases h
        · rw [if_neg b] at h ⊢
          exact ih _ _ h
      · rw [if_neg a] at h ⊢
        by_cases b : (if pr = true ∧ o = 0 then 6 else 1) ≤ rk x.1
        · rw [if_pos b] at h
          have hb : 1 ≤ rk x.1 := by
            by_cases c : pr = true ∧ o = 0
            · rw [if_pos c] at b; omega
            · rw [if_neg c] at b; exact b
          have := rk_bin hb
          unfold gr
          rw [if_neg (show ¬ false = true by decide)]
          dsimp only
          rw [if_neg a, if_pos hb]
          exact ih _ _ h
        · rw [if_neg b] at h; cases h
