/-! The reference: join on lists of items -/
theorem rk_cs {c : Nat} (h : 1 ≤ rk c) : c = 43 ∨ c = 45 ∨ c = 37 ∨ c = 42 ∨ c = 47 ∨ c = 60 ∨ c = 62 ∨ c = 38 ∨ c = 94 ∨ c = 124 := by
  unfold rk at h
  by_cases h1 : c = 37 ∨ c = 42 ∨ c = 47
  · omega
  · by_cases h2 : c = 43 ∨ c = 45
    · omega
    · by_cases h3 : c = 60 ∨ c = 62
      · omega
      · by_cases h4 : c = 38
        · omega
        · by_cases h5 : c = 94
          · omega
          · by_cases h6 : c = 124
            · omega
            · rw [if_neg h1, if_neg h2, if_neg h3, if_neg h4, if_neg h5, if_neg h6] at h; omega
theorem gz_0 {α : Type} (k : Option α) : gz (0 : Int32) k = k := if_pos (by decide)
theorem gz_1 {α : Type} (k : Option α) : gz (1 : Int32) k = k := if_pos (by decide)
section
variable (mma md : Int32) (si pu mi : Nat → Int32) (va : Nat → Int64) (x1 : Int32) (q : Nat)
def jR (md : Int32) (pu mi : Nat → Int32) (y : Int64) : Option (Int32 × Int32 × (Nat → Int32) × (Nat → Int32) × (Nat → Int32) × (Nat → Int64)) := (f_M_remove mma si pu mi (vp_updL va q y) x1 (2 : Int32)).bind (fun o => some (o.1, md, o.2.1, o.2.2.1, o.2.2.2.1, o.2.2.2.2))
theorem M_j310 (hq : q < 1100) {c : Nat} (hc : 1 ≤ rk c) (h43 : c ≠ 43) (h45 : c ≠ 45) (x y : Int64) (hy : (c = 47 ∨ c = 37) → y ≠ 0) :
    ∃ z, comb c x y = some z ∧ f_M_join_j310 mma md si pu mi va x1 (cM c) (nI q) x y = jR mma si va x1 q md pu mi z := by
  have gq : ∀ (α : Type) (x : Option α), gi (nI q) 1100 x = x := fun α x => gi_nI hq (by decide)
  have cq : (nI q).toNatClampNeg = q := nI_clamp (by omega)
  unfold f_M_join_j310 jR
  simp only [gq, cq]
  rcases rk_cs hc with d | d | d | d | d | d | d | d | d | d
  · exact absurd d h43
  · exact absurd d h45
  · have hy := hy (Or.inr d)
    have gz0 : ∀ (α : Type) (k : Option α), gn (y = 0) k = k := fun α k => if_neg hy
    rw [d, if_neg (show ¬ cM 37 = (42 : Int32) by decide), if_neg (show ¬ cM 37 = (47 : Int32) by decide), if_pos (show cM 37 = (37 : Int32) by decide)]
    simp only [gz0]
    refine ⟨_, ?_, rfl⟩
    unfold comb
    rw [if_neg (by decide), if_neg (by decide), if_neg (by decide), if_neg (by decide), if_neg (by decide), if_neg (by decide), if_neg hy, if_neg (by decide)]
  · rw [d, if_pos (show cM 42 = (42 : Int32) by decide)]
    exact ⟨_, rfl, rfl⟩
  · have hy := hy (Or.inl d)
    have gz0 : ∀ (α : Type) (k : Option α), gn (y = 0) k = k := fun α k => if_neg hy
    rw [d, if_neg (show ¬ cM 47 = (42 : Int32) by decide), if_pos (show cM 47 = (47 : Int32) by decide)]
    simp only [gz0]
    refine ⟨_, ?_, rfl⟩
    unfold comb
    rw [if_neg (by decide), if_neg (by decide), if_neg (by decide), if_neg (by decide), if_neg (by decide), if_neg (by decide), if_neg hy, if_pos rfl]
  · rw [d, if_neg (show ¬ cM 60 = (42 : Int32) by decide), if_neg (show ¬ cM 60 = (47 : Int32) by decide), if_neg (show ¬ cM 60 = (37 : Int32) by decide), if_pos (show cM 60 = (256 : Int32) by decide)]
    exact ⟨_, rfl, rfl⟩
  · rw [d, if_neg (show ¬ cM 62 = (42 : Int32) by decide), if_neg (show ¬ cM 62 = (47 : Int32) by decide), if_neg (show ¬ cM 62 = (37 : Int32) by decide), if_neg (show ¬ cM 62 = (256 : Int32) by decide), if_pos (show cM 62 = (257 : Int32) by decide)]
    exact ⟨_, rfl, rfl⟩
  · rw [d, if_neg (show ¬ cM 38 = (42 : Int32) by decide), if_neg (show ¬ cM 38 = (47 : Int32) by decide), if_neg (show ¬ cM 38 = (37 : Int32) by decide), if_neg (show ¬ cM 38 = (256 : Int32) by decide), if_neg (show ¬ cM 38 = (257 : Int32) by decide), if_pos (show cM 38 = (38 : Int32) by decide)]
    exact ⟨_, rfl, rfl⟩
  · rw [d, if_neg (show ¬ cM 94 = (42 : Int32) by decide), if_neg (show ¬ cM 94 = (47 : Int32) by decide), if_neg (show ¬ cM 94 = (37 : Int32) by decide), if_neg (show ¬ cM 94 = (256 : Int32) by decide), if_neg (show ¬ cM 94 = (257 : Int32) by decide), if_neg (show ¬ cM 94 = (38 : Int32) by decide), if_pos (show cM 94 = (94 : Int32) by decide)]
    exact ⟨_, rfl, rfl⟩
  · rw [d, if_neg (show ¬ cM 124 = (42 : Int32) by decide), if_neg (show ¬ cM 124 = (47 : Int32) by decide), if_neg (show ¬ cM 124 = (37 : Int32) by decide), if_neg (show ¬ cM 124 = (256 : Int32) by decide), if_neg (show ¬ cM 124 = (257 : Int32) by decide), if_neg (show ¬ cM 124 = (38 : Int32) by decide), if_neg (show ¬ cM 124 = (94 : Int32) by decide)]
    exact ⟨_, rfl, rfl⟩
end
theorem comb_0 {c : Nat} (hc : c = 47 ∨ c = 37) (x : Int64) : comb c x 0 = none := by
  unfold comb
  rw [if_neg (by omega), if_neg (by omega), if_neg (by omega), if_neg (by omega), if_neg (by omega), if_neg (by omega), if_pos rfl]
theorem cM_j {c : Nat} (hc : 1 ≤ rk c) : (cM c = 43 ↔ c = 43) ∧ (cM c = 45 ↔ c = 45) ∧ (cM c = 47 ↔ c = 47) ∧ (cM c = 37 ↔ c = 37) := by
  rcases rk_cs hc with d | d | d | d | d | d | d | d | d | d <;> rw [d] <;> decide
theorem M_join_raw (mma : Int32) (b : Bool) (si pu mi : Nat → Int32) (va : Nat → Int64) {q c : Nat} (hq : q + 2 < 1100) (hc : 1 ≤ rk c) (hs : si (q + 1) = cM c) :
    ∃ md' pu' mi' y, f_M_join mma (b01 b) si pu mi va (nI (q + 1)) = jR mma si va (nI (q + 1)) q md' pu' mi' y ∧ (∀ j, j ≠ q → pu' j = pu j ∧ mi' j = mi j) ∧ (b = true → md' = 1) ∧ ((pu q = -1 → mi q = -1) → (pu (q + 2) = -1 → mi (q + 2) = -1) → BS (jn c (some (va q, pu q, mi q)) (some (va (q + 2), pu (q + 2), mi (q + 2)))) (b01 b) md' y (pu' q) (mi' q)) := by
  have g0 : ∀ (α : Type) (x : Option α), gi (nI q) 1100 x = x := fun α x => gi_nI (by omega) (by decide)
  have g1 : ∀ (α : Type) (x : Option α), gi (nI (q + 1)) 1100 x = x := fun α x => gi_nI (by omega) (by decide)
  have g2 : ∀ (α : Type) (x : Option α), gi (nI (q + 2)) 1100 x = x := fun α x => gi_nI (by omega) (by decide)
  have c0 : (nI q).toNatClampNeg = q := nI_clamp (by omega)
  have c1 : (nI (q + 1)).toNatClampNeg = q + 1 := nI_clamp (by omega)
  have c2 : (nI (q + 2)).toNatClampNeg = q + 2 := nI_clamp (by omega)
  have p1 : nI (q + 1) - 1 = nI q := nI_pred _
  have p2 : nI (q + 1) + 1 = nI (q + 2) := nI_1 _
  have one : ¬ (1 : Int32) = 0 := by decide
  obtain ⟨e43, e45, e47, e37⟩ := cM_j hc
  have bs : ∀ {J : Vl} {md' : Int32} {y : Int64} {p o : Int32}, (b = false → BS J 0 md' y p o) → (b = true → md' = 1) → (∀ z, J = some z → y = z.1 ∧ p = z.2.1 ∧ o = z.2.2) → BS J (b01 b) md' y p o := by
    intro J md' y p o h1 h2 h3
    cases b with
    | false => exact h1 rfl
    | true => exact ⟨fun z hz => ⟨h2 rfl, h3 z hz⟩, fun _ => h2 rfl⟩
  unfold f_M_join
  rw [g1, p1, p2, M_isConst (by omega), Option.bind_some, M_isConst (by omega), Option.bind_some, g0, g2, c1, hs, c0, c2]
  by_cases c43 : c = 43
  · rw [if_pos (e43.mpr c43), c43]
    unfold f_M_join_j72 f_M_join_j76 f_M_join_j77 f_M_join_j106 f_M_join_j133
    simp only [gz_1, gz_0, g0, g2, c0, c2]
    have jj : jn 43 (some (va q, pu q, mi q)) (some (va (q + 2), pu (q + 2), mi (q + 2))) = if pu q = -1 then some (va q + va (q + 2), pu (q + 2), mi (q + 2)) else if pu (q + 2) = -1 then some (va q + va (q + 2), pu q, mi q) else none := rfl
    by_cases p : pu q = -1 ∧ mi q = -1
    · refine ⟨b01 b, upd pu q (pu (q + 2)), upd mi q (mi (q + 2)), va q + va (q + 2), ?_, fun j hj => ⟨upd_ne _ _ hj, upd_ne _ _ hj⟩, fun h => by rw [h]; rfl, fun ga gb => ?_⟩
      · rw [if_pos p]
        unfold jR
        cases b with
        | false => simp only [one, b01_0, b01_1, ↓reduceIte]
        | true => simp only [one, b01_0, b01_1, ↓reduceIte]
      · rw [jj, if_pos p.1, upd_at, upd_at]
        exact BS.s rfl rfl
    · rw [if_neg p]
      by_cases r : pu (q + 2) = -1 ∧ mi (q + 2) = -1
      · refine ⟨b01 b, upd pu q (pu q), upd mi q (mi q), va q + va (q + 2), ?_, fun j hj => ⟨upd_ne _ _ hj, upd_ne _ _ hj⟩, fun h => by rw [h]; rfl, fun ga gb => ?_⟩
        · rw [if_pos r]
          unfold jR
          cases b with
          | false => simp only [one, b01_0, b01_1, ↓reduceIte]
          | true => simp only [one, b01_0, b01_1, ↓reduceIte]
        · rw [jj, if_neg (fun z => p ⟨z, ga z⟩), if_pos r.1, upd_at, upd_at]
          exact BS.s rfl rfl
      · refine ⟨1, upd pu q (pu q), upd mi q (mi q), va q + va (q + 2), ?_, fun j hj => ⟨upd_ne _ _ hj, upd_ne _ _ hj⟩, fun h => rfl, fun ga gb => ?_⟩
        · rw [if_neg r]
          unfold jR
          cases b with
          | false => simp only [one, b01_0, b01_1, ↓reduceIte]
          | true => simp only [one, b01_0, b01_1, ↓reduceIte]
        · rw [jj, if_neg (fun z => p ⟨z, ga z⟩), if_neg (fun z => r ⟨z, gb z⟩)]
          exact BS.n rfl rfl
  · rw [if_neg (fun z => c43 (e43.mp z))]
    by_cases c45 : c = 45
    · rw [if_pos (e45.mpr c45), c45]
      unfold f_M_join_j193 f_M_join_j197 f_M_join_j198 f_M_join_j227
      simp only [gz_1, gz_0, g0, g2, c0, c2]
      have jj : jn 45 (some (va q, pu q, mi q)) (some (va (q + 2), pu (q + 2), mi (q + 2))) = if pu (q + 2) = -1 then some (va q - va (q + 2), pu q, mi q) else if pu q ≠ -1 ∧ mi q = -1 ∧ mi (q + 2) = -1 then some (va q - va (q + 2), pu q, pu (q + 2)) else none := rfl
      by_cases r : pu (q + 2) = -1 ∧ mi (q + 2) = -1
      · refine ⟨b01 b, pu, upd mi q (mi q), va q - va (q + 2), ?_, fun j hj => ⟨rfl, upd_ne _ _ hj⟩, fun h => by rw [h]; rfl, fun ga gb => ?_⟩
        · rw [if_pos r]
          unfold jR
          cases b with
          | false => simp only [one, b01_0, b01_1, ↓reduceIte]
          | true => simp only [one, b01_0, b01_1, ↓reduceIte]
        · rw [jj, if_pos r.1, upd_at]
          exact BS.s rfl rfl
      · rw [if_neg r]
        have jn0 : (pu (q + 2) = -1 → mi (q + 2) = -1) → ¬ pu (q + 2) = -1 := fun gb z => r ⟨z, gb z⟩
        by_cases p : pu q = -1 ∧ mi q = -1
        · refine ⟨1, pu, upd mi q (pu (q + 2)), va q - va (q + 2), ?_, fun j hj => ⟨rfl, upd_ne _ _ hj⟩, fun h => rfl, fun ga gb => ?_⟩
          · rw [if_pos p]
            unfold jR
            cases b with
            | false => simp only [one, b01_0, b01_1, ↓reduceIte]
            | true => simp only [one, b01_0, b01_1, ↓reduceIte]
          · rw [jj, if_neg (jn0 gb), if_neg (fun z => z.1 p.1)]
            exact BS.n rfl rfl
        · rw [if_neg p]
          by_cases m1 : mi q = -1
          · by_cases m2 : mi (q + 2) = -1
            · refine ⟨b01 b, pu, upd mi q (pu (q + 2)), va q - va (q + 2), ?_, fun j hj => ⟨rfl, upd_ne _ _ hj⟩, fun h => by rw [h]; rfl, fun ga gb => ?_⟩
              · rw [if_pos m1, if_pos m2]
                unfold jR
                cases b with
                | false => simp only [one, b01_0, b01_1, ↓reduceIte]
                | true => simp only [one, b01_0, b01_1, ↓reduceIte]
              · rw [jj, if_neg (jn0 gb), if_pos ⟨fun z => p ⟨z, m1⟩, m1, m2⟩, upd_at]
                exact BS.s rfl rfl
            · refine ⟨1, pu, upd mi q (pu (q + 2)), va q - va (q + 2), ?_, fun j hj => ⟨rfl, upd_ne _ _ hj⟩, fun h => rfl, fun ga gb => ?_⟩
              · rw [if_pos m1, if_neg m2]
                unfold jR
                cases b with
                | false => simp only [one, b01_0, b01_1, ↓reduceIte]
                | true => simp only [one, b01_0, b01_1, ↓reduceIte]
              · rw [jj, if_neg (jn0 gb), if_neg (fun z => m2 z.2.2)]
                exact BS.n rfl rfl
          · refine ⟨1, pu, upd mi q (pu (q + 2)), va q - va (q + 2), ?_, fun j hj => ⟨rfl, upd_ne _ _ hj⟩, fun h => rfl, fun ga gb => ?_⟩
            · rw [if_neg m1]
              unfold jR
              cases b with
              | false => simp only [one, b01_0, b01_1, ↓reduceIte]
              | true => simp only [one, b01_0, b01_1, ↓reduceIte]
            · rw [jj, if_neg (jn0 gb), if_neg (fun z => m1 z.2.1)]
              exact BS.n rfl rfl
    · rw [if_neg (fun z => c45 (e45.mp z))]
      have jj : jn c (some (va q, pu q, mi q)) (some (va (q + 2), pu (q + 2), mi (q + 2))) = if pu q = -1 ∧ pu (q + 2) = -1 then (comb c (va q) (va (q + 2))).bind (fun z => some (z, pu q, mi q)) else none := by
        show (if c = 43 then _ else if c = 45 then _ else _) = _
        rw [if_neg c43, if_neg c45]
      rw [jj]
      -- the road with the zero flag
      have j266 : ∀ zf : Int32, (zf = 0 → (c = 47 ∨ c = 37) → va (q + 2) ≠ 0) → (zf ≠ 0 → (c = 47 ∨ c = 37) ∧ va (q + 2) = 0) → ∃ md' pu' mi' y, f_M_join_j266 mma (b01 b) si pu mi va (nI (q + 1)) (cM c) (nI q) (if pu q = -1 ∧ mi q = -1 then 1 else 0) (if pu (q + 2) = -1 ∧ mi (q + 2) = -1 then 1 else 0) (va q) (va (q + 2)) zf = jR mma si va (nI (q + 1)) q md' pu' mi' y ∧ (∀ j, j ≠ q → pu' j = pu j ∧ mi' j = mi j) ∧ (b = true → md' = 1) ∧ ((pu q = -1 → mi q = -1) → (pu (q + 2) = -1 → mi (q + 2) = -1) → BS (if pu q = -1 ∧ pu (q + 2) = -1 then (comb c (va q) (va (q + 2))).bind (fun z => some (z, pu q, mi q)) else none) (b01 b) md' y (pu' q) (mi' q)) := by
        intro zf hz0 hz1
        by_cases z : zf = 0
        · obtain ⟨w, w1, w2⟩ := M_j310 mma 0 si pu mi va (nI (q + 1)) q (by omega) hc c43 c45 (va q) (va (q + 2)) (hz0 z)
          obtain ⟨w', w1', w2'⟩ := M_j310 mma 1 si pu mi va (nI (q + 1)) q (by omega) hc c43 c45 (va q) (va (q + 2)) (hz0 z)
          have ww : w' = w := Option.some.inj (w1'.symm.trans w1)
          rw [ww] at w2'
          unfold f_M_join_j266 f_M_join_j291 f_M_join_j296
          simp only [gz_1, gz_0, z, ↓reduceIte]
          rw [w2, w2', w1, Option.bind_some]
          by_cases p : pu q = -1 ∧ mi q = -1
          · by_cases r : pu (q + 2) = -1 ∧ mi (q + 2) = -1
            · refine ⟨b01 b, pu, mi, w, ?_, fun j hj => ⟨rfl, rfl⟩, fun h => by rw [h]; rfl, fun ga gb => ?_⟩
              · rw [if_pos p, if_pos r, if_neg one, if_neg one]
                cases b with
                | false => rw [if_pos (show b01 false = 0 from rfl)]; rfl
                | true => rw [if_neg (show ¬ b01 true = 0 by decide)]; rfl
              · rw [if_pos ⟨p.1, r.1⟩]
                exact BS.s rfl rfl
            · refine ⟨1, pu, mi, w, ?_, fun j hj => ⟨rfl, rfl⟩, fun h => rfl, fun ga gb => ?_⟩
              · rw [if_pos p, if_neg r, if_neg one, if_pos rfl]
                cases b with
                | false => rw [if_pos (show b01 false = 0 from rfl)]
                | true => rw [if_neg (show ¬ b01 true = 0 by decide)]
              · rw [if_neg (fun k => r ⟨k.2, gb k.2⟩)]
                exact BS.n rfl rfl
          · refine ⟨1, pu, mi, w, ?_, fun j hj => ⟨rfl, rfl⟩, fun h => rfl, fun ga gb => ?_⟩
            · rw [if_neg p, if_pos rfl]
              cases b with
              | false => rw [if_pos (show b01 false = 0 from rfl)]
              | true => rw [if_neg (show ¬ b01 true = 0 by decide)]
            · rw [if_neg (fun k => p ⟨k.1, ga k.1⟩)]
              exact BS.n rfl rfl
        · obtain ⟨d1, d2⟩ := hz1 z
          obtain ⟨w, w1, w2⟩ := M_j310 mma 1 si pu mi va (nI (q + 1)) q (by omega) hc c43 c45 (va q) 1 (fun _ => by decide)
          unfold f_M_join_j266 f_M_join_j291 f_M_join_j296
          simp only [gz_1, gz_0, z, ↓reduceIte]
          rw [w2, d2, comb_0 d1]
          refine ⟨1, pu, mi, w, ?_, fun j hj => ⟨rfl, rfl⟩, fun h => rfl, fun ga gb => BS.n (by split <;> rfl) rfl⟩
          simp only [ite_self]
      unfold f_M_join_j254 f_M_join_j265
      have n0 : ¬ (0 : Int32) ≠ 0 := fun z => z rfl
      by_cases c47 : c = 47
      · rw [if_pos (e47.mpr c47)]
        by_cases z : va (q + 2) = 0
        · rw [if_pos ((lg_cmp_eq _ 0).mpr z)]
          exact j266 1 (fun h => absurd h one) (fun _ => ⟨Or.inl c47, z⟩)
        · rw [if_neg (fun h => z ((lg_cmp_eq _ 0).mp h))]
          exact j266 0 (fun _ _ => z) (fun h => absurd rfl h)
      · rw [if_neg (fun z => c47 (e47.mp z))]
        by_cases c37 : c = 37
        · rw [if_pos (e37.mpr c37)]
          by_cases z : va (q + 2) = 0
          · rw [if_pos ((lg_cmp_eq _ 0).mpr z)]
            exact j266 1 (fun h => absurd h one) (fun _ => ⟨Or.inr c37, z⟩)
          · rw [if_neg (fun h => z ((lg_cmp_eq _ 0).mp h))]
            exact j266 0 (fun _ _ => z) (fun h => absurd rfl h)
        · rw [if_neg (fun z => c37 (e37.mp z))]
          exact j266 0 (fun _ h => h.elim (fun k => absurd k c47) (fun k => absurd k c37)) (fun h => absurd rfl h)
theorem M_join {A C : List RI} {c : Nat} {z a b : Vl} {mma mod : Int32} {si pu mi : Nat → Int32} {va : Nat → Int64} (h : AR (A ++ (0, a) :: (c, z) :: (0, b) :: C) mma si pu mi va) (hz : z = sgv) (hc : 1 ≤ rk c) (hl : A.length + 3 + C.length ≤ 1024) (hGa : GV a) (hGb : GV b) (ho : mod = b01 (odr (A ++ (0, a) :: (c, z) :: (0, b) :: C))) :
    ∃ mma' mod' si' pu' mi' va', f_M_join mma mod si pu mi va (nI (A.length + 1)) = some (mma', mod', si', pu', mi', va') ∧ AR (A ++ (0, jn c a b) :: C) mma' si' pu' mi' va' ∧ mod' = b01 (odr (A ++ (0, jn c a b) :: C)) := by
  have e1 : (A ++ [(0, a)]) ++ (c, z) :: (0, b) :: C = A ++ (0, a) :: (c, z) :: (0, b) :: C := by rw [List.append_assoc]; rfl
  have l1 : (A ++ [(0, a)]).length = A.length + 1 := by rw [List.length_append]; rfl
  have e2 : (A ++ [(0, a), (c, z)]) ++ (0, b) :: C = A ++ (0, a) :: (c, z) :: (0, b) :: C := by rw [List.append_assoc]; rfl
  have l2 : (A ++ [(0, a), (c, z)]).length = A.length + 2 := by rw [List.length_append]; rfl
  have h0 : (A ++ (0, a) :: (c, z) :: (0, b) :: C)[A.length]? = some (0, a) := mid_at _ _ _
  have h1 : (A ++ (0, a) :: (c, z) :: (0, b) :: C)[A.length + 1]? = some (c, z) := by rw [← e1, ← l1]; exact mid_at _ _ _
  have h2 : (A ++ (0, a) :: (c, z) :: (0, b) :: C)[A.length + 2]? = some (0, b) := by rw [← e2, ← l2]; exact mid_at _ _ _
  obtain ⟨-, s0⟩ := h.2 _ _ h0
  obtain ⟨s1, -⟩ := h.2 _ _ h1
  obtain ⟨-, s2⟩ := h.2 _ _ h2
  obtain ⟨md', pu', mi', y, r1, r2, r3, r4⟩ := M_join_raw mma (odr (A ++ (0, a) :: (c, z) :: (0, b) :: C)) si pu mi va (q := A.length) (c := c) (by omega) hc s1
  have od0 : odr (A ++ (0, a) :: (c, z) :: (0, b) :: C) = (odr A || (a.isNone || (b.isNone || odr C))) := by rw [odr_app, odr_cons, odr_cons, odr_cons, hz]; rfl
  have od1 : odr (A ++ (0, jn c a b) :: C) = (odr A || ((jn c a b).isNone || odr C)) := by rw [odr_app, odr_cons]
  have hA : AR (A ++ (0, jn c a b) :: (c, z) :: (0, b) :: C) mma si pu' mi' (vp_updL va A.length y) := by
    refine AR_upd h (fun j hj => ⟨updL_ne _ _ hj, r2 j hj⟩) (fun x hx => ?_)
    cases a with
    | none => rw [jn_none (Or.inl rfl)] at hx; cases hx
    | some xa =>
      cases b with
      | none => rw [jn_none (Or.inr rfl)] at hx; cases hx
      | some xb =>
        obtain ⟨a1, a2, a3⟩ := s0 xa rfl
        obtain ⟨b1, b2, b3⟩ := s2 xb rfl
        rw [a1, a2, a3, b1, b2, b3] at r4
        rw [updL_at]
        exact ((r4 (hGa xa rfl) (hGb xb rfl)).1 x hx).2
  obtain ⟨m1, m2, m3, m4, m5, q1, q2⟩ := M_remove hA (by rw [List.length_append, List.length_cons, List.length_cons, List.length_cons]; omega) (k := A.length + 1) (n := 2) (by rw [List.length_append, List.length_cons, List.length_cons, List.length_cons]; omega)
  rw [ho, r1]
  unfold jR
  rw [show (2 : Int32) = nI 2 from rfl, q1, Option.bind_some]
  refine ⟨_, _, _, _, _, _, rfl, ?_, ?_⟩
  · have e3 : (A ++ [(0, jn c a b)]) ++ ((c, z) :: (0, b) :: C) = A ++ (0, jn c a b) :: (c, z) :: (0, b) :: C := by rw [List.append_assoc]; rfl
    have l3 : (A ++ [(0, jn c a b)]).length = A.length + 1 := by rw [List.length_append]; rfl
    have e4 : (A ++ [(0, jn c a b), (c, z), (0, b)]) ++ C = A ++ (0, jn c a b) :: (c, z) :: (0, b) :: C := by rw [List.append_assoc]; rfl
    have l4 : (A ++ [(0, jn c a b), (c, z), (0, b)]).length = A.length + 1 + 2 := by rw [List.length_append]; rfl
    have t1 : (A ++ (0, jn c a b) :: (c, z) :: (0, b) :: C).take (A.length + 1) = A ++ [(0, jn c a b)] := by rw [← e3, ← l3]; exact take_mid _ _
    have t2 : (A ++ (0, jn c a b) :: (c, z) :: (0, b) :: C).drop (A.length + 1 + 2) = C := by rw [← e4, ← l4]; exact drop_mid _ _
    rw [t1, t2, List.append_assoc] at q2
    exact q2
  · rw [od0] at r3 r4
    rw [od1]
    cases a with
    | none => rw [jn_none (Or.inl rfl), r3 (by rw [show (none : Vl).isNone = true from rfl, Bool.true_or, Bool.or_true]), show (none : Vl).isNone = true from rfl, Bool.true_or, Bool.or_true]; rfl
    | some xa =>
      cases b with
      | none => rw [jn_none (Or.inr rfl), r3 (by rw [show (none : Vl).isNone = true from rfl, Bool.true_or, Bool.or_true, Bool.or_true]), show (none : Vl).isNone = true from rfl, Bool.true_or, Bool.or_true]; rfl
      | some xb =>
        obtain ⟨a1, a2, a3⟩ := s0 xa rfl
        obtain ⟨b1, b2, b3⟩ := s2 xb rfl
        rw [a1, a2, a3, b1, b2, b3] at r4
        have r4 := r4 (hGa xa rfl) (hGb xb rfl)
        cases hJ : jn c (some xa) (some xb) with
        | none => rw [r4.2 hJ, show (none : Vl).isNone = true from rfl, Bool.true_or, Bool.or_true]; rfl
        | some w => rw [(r4.1 w hJ).1]; rfl
