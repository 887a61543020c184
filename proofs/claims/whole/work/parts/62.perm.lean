/-! rows' names; offers in any order -/
section SpecPerm
variable {O : xO}
theorem n_jnC {A R : xV} {s i j a b : Int} (hij : 0 ≤ i ∧ i ≤ j ∧ j ≤ 7) (hA : ∀ j' c, i ≤ j' → j' ≤ j → a < c → c ≤ b → vN (j' - i + 1) (A s i j' a c)) (hR : ∀ i' c, i < i' → a < c → c < b → vN (j - i' + 1) (R s i' j c b)) (hz : ∀ i' c, j < i' → (R s i' j c b).1 = 0) (k : Int) (hk : i ≤ k) (hkj : k < j) : ∀ n : Nat, a < b - n → nL (j - i + 1) (oJnC O A R s i j a b k n)
  | 0, _ => nL_nil
  | n + 1, hn => by
    rw [oJnC]
    refine nL_app ?_ (n_jnC hij hA hR hz k hk hkj n (by omega))
    have h3 := hR (k + 2) (b - (n + 1 : Nat)) (by omega) (by omega) (by omega)
    rw [show j - (k + 2) + 1 = (j - (k + 1) + 1) - 1 by omega] at h3
    have := n_jn (O := O) (A := A) (R := R) (s := s) (i := i) (j := j) (a := a) (b := b) (k := k) (c := b - (n + 1 : Nat)) (x := k - i + 1) (y := j - (k + 1) + 1) (by omega) (by omega) (fun z => by
      rcases (show k + 2 ≤ j ∨ j < k + 2 by omega) with q | q
      · omega
      · exact absurd (hz _ _ q) z) (hA k _ hk (by omega) (by omega) (by omega)) (hR _ _ (by omega) (by omega) (by omega)) h3
    rw [show k - i + 1 + (j - (k + 1) + 1) = j - i + 1 by omega] at this
    exact this
theorem n_jnK {A R : xV} {s i j a b : Int} (hij : 0 ≤ i ∧ i ≤ j ∧ j ≤ 7) (hab : a < b) (hA : ∀ j' c, i ≤ j' → j' ≤ j → a < c → c ≤ b → vN (j' - i + 1) (A s i j' a c)) (hR : ∀ i' c, i < i' → a < c → c < b → vN (j - i' + 1) (R s i' j c b)) (hz : ∀ i' c, j < i' → (R s i' j c b).1 = 0) : ∀ n : Nat, (n : Int) ≤ j - i → nL (j - i + 1) (oJnK O A R s i j a b n)
  | 0, _ => nL_nil
  | n + 1, hn => by
    rw [oJnK]
    exact nL_app (n_jnC hij hA hR hz _ (by omega) (by omega) _ (by omega)) (n_jnK hij hab hA hR hz n (by omega))
theorem n_PR (hO : okO O) : ∀ (f : Nat) (s i j a b : Int), 0 ≤ i → j ≤ 7 → 0 ≤ a → b ≤ O.2.2.2.2 → vN (j - i + 1) ((PR O f).1 s i j a b) ∧ vN (j - i + 1) ((PR O f).2 s i j a b)
  | 0, _, _, _, _, _, _, _, _, _ => ⟨vN_T0 _, vN_T0 _⟩
  | f + 1, s, i, j, a, b, hi, hj, ha, hb => by
    have hl := hO.2.2.2.2.2
    have hp : ∀ s i j a b : Int, 0 ≤ i → j ≤ 7 → 0 ≤ a → b ≤ O.2.2.2.2 → vN (j - i + 1) ((PR O (f + 1)).1 s i j a b) := by
      intro s i j a b hi hj ha hb
      show vN (j - i + 1) (if i ≤ j ∧ a < b then pieceEq O (PR O f).2 s i j a b else T0)
      split
      · rename_i c
        unfold pieceEq
        by_cases e : i = j
        · rw [if_pos e]
          have v : vL (j - i + 1) [(O.1 i 0 0 (tgA s a b), 2, [28, 12 + i]), (O.2.1 i 0 0 (tgA s a b), 1, [29, 12 + i])] := by
            refine vL_cons ⟨hO.1 _ _ _ _, fun _ => ⟨okN_cons (by omega) (ok1 (by omega)), ?_, by simp only; omega, by simp only; omega⟩⟩ (vL_cons ⟨hO.2.1 _ _ _ _, fun _ => ⟨okN_cons (by omega) (ok1 (by omega)), ?_, by simp only; omega, by simp only; omega⟩⟩ vL_nil)
            · simp; omega
            · simp; omega
          rw [show j - i + 1 = 1 by omega] at v ⊢
          exact vN_mgL _ (Int.le_refl _) (vN_T0 _) v (nL_cons (fun _ => val_2 (Or.inr (by omega)) (by omega)) (nL_cons (fun _ => val_2 (Or.inr (by omega)) (by omega)) nL_nil))
        · rw [if_neg e]
          exact vN_mgL _ (Int.le_refl _) (vN_T0 _) (v_all hO ⟨hi, by omega, hj⟩ ⟨ha, by omega, hb⟩ (fun s' i' j' a' b' h1 h2 _ h3 h4 => (v_PR hO f s' i' j' a' b' (by omega) (by omega) h3 h4).2)) (n_all hl ⟨hi, by omega, hj⟩ ⟨ha, by omega, hb⟩ (fun s' i' j' a' b' h1 h2 _ h3 h4 => (n_PR hO f s' i' j' a' b' (by omega) (by omega) h3 h4).2))
      · exact vN_T0 _
    refine ⟨hp s i j a b hi hj ha hb, ?_⟩
    show vN (j - i + 1) (if i ≤ j ∧ a < b then rowEq O (PR O (f + 1)).1 (PR O f).2 s i j a b else T0)
    split
    · rename_i c
      unfold rowEq
      have hvp : ∀ s i j a b : Int, 0 ≤ i → j ≤ 7 → 0 ≤ a → b ≤ O.2.2.2.2 → vW (j - i + 1) ((PR O (f + 1)).1 s i j a b) := fun s i j a b h1 h2 h3 h4 => (v_PR hO (f + 1) s i j a b h1 h2 h3 h4).1
      have hC : ∀ (k : Int) (n : Nat), i ≤ k → k < j → a < b - n → vL (j - i + 1) (oJnC O (PR O (f + 1)).1 (PR O f).2 s i j a b k n) := by
        intro k n hk hkj
        induction n with
        | zero => intro _; exact vL_nil
        | succ n ih2 =>
          intro hn
          refine vL_app (v_jn hO (x := k - i + 1) (y := j - (k + 1) + 1) (by omega) (by omega) (hvp _ _ _ _ _ hi (by omega) ha (by omega)) (v_PR hO f _ _ _ _ _ (by omega) hj (by omega) hb).2 ?_) (ih2 (by omega))
          rw [show j - (k + 1) + 1 - 1 = j - (k + 2) + 1 by omega]
          exact (v_PR hO f _ _ _ _ _ (by omega) hj (by omega) hb).2
      have hK : ∀ n : Nat, (n : Int) ≤ j - i → vL (j - i + 1) (oJnK O (PR O (f + 1)).1 (PR O f).2 s i j a b n) := by
        intro n
        induction n with
        | zero => intro _; exact vL_nil
        | succ n ih2 =>
          intro hn
          exact vL_app (hC _ _ (by omega) (by omega) (by omega)) (ih2 (by omega))
      refine vN_mgL _ (Int.le_refl _) (vN_T0 _) (vL_cons (hvp _ _ _ _ _ hi hj ha hb) (hK _ (by omega))) (nL_cons (hp _ _ _ _ _ hi hj ha hb) (n_jnK ⟨hi, c.1, hj⟩ c.2 (fun j' c' h1 h2 h3 h4 => hp _ _ _ _ _ hi (by omega) ha (by omega)) (fun i' c' h1 h2 h3 => (n_PR hO f _ _ _ _ _ (by omega) hj (by omega) hb).2) (fun i' c' h1 => ?_) _ (by omega)))
      cases f with
      | zero => rfl
      | succ f =>
        show (if i' ≤ j ∧ c' < b then _ else T0 : Tri).1 = 0
        rw [if_neg (by omega)]
        rfl
    · exact vN_T0 _
theorem n_PV (hO : okO O) {s i j a b : Int} (hi : 0 ≤ i) (hj : j ≤ 7) (ha : 0 ≤ a) (hb : b ≤ O.2.2.2.2) : vN (j - i + 1) (PV O s i j a b) := (n_PR hO 9 s i j a b hi hj ha hb).1
theorem n_RV (hO : okO O) {s i j a b : Int} (hi : 0 ≤ i) (hj : j ≤ 7) (ha : 0 ≤ a) (hb : b ≤ O.2.2.2.2) : vN (j - i + 1) (RV O s i j a b) := (n_PR hO 9 s i j a b hi hj ha hb).2
theorem mg_same {m : Int} (hm : m ≤ 9) {x y : Tri} (hx : vW m x) (hy : vW m y) (h1 : x.1 ≠ 0) (h2 : y.1 ≠ 0) (h3 : x.2.1 = y.2.1) (h4 : cd 36 x.2.2 = cd 36 y.2.2) : x.2 = y.2 := by
  obtain ⟨a1, a2, -, -⟩ := hx.2 h1
  obtain ⟨b1, b2, -, -⟩ := hy.2 h2
  have := cd_inj 36 x.2.2 y.2.2 a1 b1 (by omega) (by omega) h4
  exact Prod.ext h3 this
theorem mg_comm {m : Int} (hm : m ≤ 9) {z x y : Tri} (hz : vW m z) (hx : vW m x) (hy : vW m y) : mg (mg z x) y = mg (mg z y) x := by
  have s1 := mg_same hm hx hy
  have s2 := mg_same hm hz hx
  have s3 := mg_same hm hz hy
  have z0 := hz.1
  have x0 := hx.1
  have y0 := hy.1
  by_cases cx : x.1 = 0
  · rw [mg_0 z x cx, mg_0 _ x cx]
  by_cases cy : y.1 = 0
  · rw [mg_0 _ y cy, mg_0 z y cy]
  have e1 : ∀ t u : Tri, u.1 ≠ 0 → mg t u = (t.1 + u.1, if t.1 = 0 ∨ u.2.1 < t.2.1 ∨ (u.2.1 = t.2.1 ∧ cd 36 u.2.2 < cd 36 t.2.2) then u.2 else t.2) := fun t u h => by unfold mg; rw [if_neg h]
  rw [e1 (mg z x) y cy, e1 (mg z y) x cx, e1 z x cx, e1 z y cy]
  refine Prod.ext (by simp only; omega) ?_
  simp only
  by_cases c1 : z.1 = 0 ∨ x.2.1 < z.2.1 ∨ (x.2.1 = z.2.1 ∧ cd 36 x.2.2 < cd 36 z.2.2)
  · rw [if_pos c1]
    by_cases c2 : z.1 = 0 ∨ y.2.1 < z.2.1 ∨ (y.2.1 = z.2.1 ∧ cd 36 y.2.2 < cd 36 z.2.2)
    · rw [if_pos c2]
      by_cases c3 : y.2.1 < x.2.1 ∨ (y.2.1 = x.2.1 ∧ cd 36 y.2.2 < cd 36 x.2.2)
      · rw [if_pos (Or.inr c3), if_neg (by omega)]
      · by_cases c4 : x.2.1 < y.2.1 ∨ (x.2.1 = y.2.1 ∧ cd 36 x.2.2 < cd 36 y.2.2)
        · rw [if_neg (by omega), if_pos (Or.inr c4)]
        · rw [if_neg (by omega), if_neg (by omega)]
          exact s1 cx cy (by omega) (by omega)
    · rw [if_neg c2, if_neg (by omega), if_pos (by omega)]
  · rw [if_neg c1]
    by_cases c2 : z.1 = 0 ∨ y.2.1 < z.2.1 ∨ (y.2.1 = z.2.1 ∧ cd 36 y.2.2 < cd 36 z.2.2)
    · rw [if_pos c2, if_pos (by omega), if_neg (by omega)]
    · rw [if_neg c2, if_neg (by omega), if_neg (by omega)]
theorem mgL_perm {m : Int} (hm : m ≤ 9) {us vs : List Tri} (h : us.Perm vs) : ∀ T, vW m T → vL m us → mgL T us = mgL T vs := by
  induction h with
  | nil => intro T _ _; rfl
  | cons x _ ih =>
    intro T hT hu
    rw [mgL_cons, mgL_cons]
    exact ih _ (vW_mg hT (hu x (List.mem_cons_self ..))) (fun y hy => hu y (List.mem_cons_of_mem _ hy))
  | swap x y l =>
    intro T hT hu
    rw [mgL_cons, mgL_cons, mgL_cons, mgL_cons, mg_comm hm hT (hu y (List.mem_cons_self ..)) (hu x (List.mem_cons_of_mem _ (List.mem_cons_self ..)))]
  | trans h1 h2 ih1 ih2 =>
    intro T hT hu
    rw [ih1 T hT hu]
    exact ih2 T hT (fun x hx => hu x (h1.mem_iff.mpr hx))
end SpecPerm
