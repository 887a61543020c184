/-! all names of a place have the same words; offers in any order -/
section SpecNval
def vN (m : Int) (T : Tri) : Prop := T.1 ≠ 0 → val m T.2.2
def nL (m : Int) (us : List Tri) : Prop := ∀ u ∈ us, vN m u
theorem vN_T0 (m : Int) : vN m T0 := fun h => absurd rfl h
theorem vN_mg {m : Int} {T u : Tri} (h0 : 0 ≤ T.1) (h0' : 0 ≤ u.1) (h1 : vN m T) (h2 : vN m u) : vN m (mg T u) := by
  unfold mg
  intro z
  have z' : T.1 + u.1 ≠ 0 := z
  simp only
  by_cases c : u.1 = 0
  · rw [if_pos c]
    exact h1 (by omega)
  · rw [if_neg c]
    by_cases c2 : T.1 = 0 ∨ u.2.1 < T.2.1 ∨ (u.2.1 = T.2.1 ∧ cd 36 u.2.2 < cd 36 T.2.2)
    · rw [if_pos c2]
      exact h2 c
    · rw [if_neg c2]
      exact h1 (fun q => c2 (Or.inl q))
theorem vN_mgL {m k : Int} : ∀ (us : List Tri) {T : Tri}, 0 ≤ T.1 → vN m T → vL k us → nL m us → vN m (mgL T us)
  | [], T, _, h, _, _ => h
  | u :: us, T, h0, h, hv, hu => by
    rw [mgL_cons]
    have u0 := (hv u (List.mem_cons_self ..)).1
    exact vN_mgL us (by show 0 ≤ T.1 + u.1; omega) (vN_mg h0 u0 h (hu u (List.mem_cons_self ..))) (fun x hx => hv x (List.mem_cons_of_mem _ hx)) (fun x hx => hu x (List.mem_cons_of_mem _ hx))
theorem nL_nil {m : Int} : nL m [] := fun _ h => nomatch h
theorem nL_cons {m : Int} {u : Tri} {us : List Tri} (h1 : vN m u) (h2 : nL m us) : nL m (u :: us) := fun x hx => (List.mem_cons.mp hx).elim (fun e => e ▸ h1) (h2 x)
theorem nL_app {m : Int} {us vs : List Tri} (h1 : nL m us) (h2 : nL m vs) : nL m (us ++ vs) := fun x hx => (List.mem_append.mp hx).elim (h1 x) (h2 x)
variable {O : xO}
theorem n_spr {S f t y m : Int} (hm : m = t - f + 2) (hft : 0 ≤ f ∧ f ≤ t ∧ t ≤ 7) (hS : 0 ≤ S ∧ S ≤ 7) (hy : neu y) : val m (nSpr y S f t) := by
  obtain ⟨h1, h2⟩ := wds_bal (t - f + 1).toNat f hft.1 (by omega)
  have := val_wrap (m := t - f + 1) hy (show 12 ≤ 12 + S ∧ 12 + S ≤ 19 by omega) h1 (by omega) (by omega)
  rw [show m = t - f + 1 + 1 by omega]
  exact this
theorem n_cut {S w how y : Int} (hw : 0 ≤ w ∧ w ≤ 7) (hS : 0 ≤ S ∧ S ≤ 7) (hy : neu y) (hh : neu how) : val 2 (nCut y S how w) := by
  have h1 := val_2 hh (show 12 ≤ 12 + w ∧ 12 + w ≤ 19 by omega)
  exact val_wrap (m := 1) hy (show 12 ≤ 12 + S ∧ 12 + S ≤ 19 by omega) h1.2.1 h1.1 (by omega)
theorem n_sgd {s a b S f t m : Int} (hm : m = t - f + 2) (hft : 0 ≤ f ∧ f ≤ t ∧ t ≤ 7) (hS : 0 ≤ S ∧ S ≤ 7) : nL m (oSgd O s a b S f t) := by
  unfold oSgd
  have n28 : neu 28 := Or.inr (by omega)
  have n29 : neu 29 := Or.inr (by omega)
  refine nL_app (nL_cons (fun _ => n_spr hm hft hS (Or.inr (by omega))) (nL_cons (fun _ => n_spr hm hft hS (Or.inr (by omega))) (nL_cons (fun _ => n_spr hm hft hS (Or.inr (by omega))) (nL_cons (fun _ => n_spr hm hft hS (Or.inr (by omega))) nL_nil)))) ?_
  by_cases c : f = t
  · rw [if_pos c, show m = 2 by omega]
    exact nL_cons (fun _ => n_cut (by omega) hS (Or.inr (by omega)) n28) (nL_cons (fun _ => n_cut (by omega) hS (Or.inr (by omega)) n29) (nL_cons (fun _ => n_cut (by omega) hS (Or.inr (by omega)) n28) (nL_cons (fun _ => n_cut (by omega) hS (Or.inr (by omega)) n29) nL_nil)))
  · rw [if_neg c]
    exact nL_nil
theorem n_trn {R : xV} {s a b S f t m : Int} (hm : 2 ≤ m) (hS : 0 ≤ S ∧ S ≤ 7) (hR : vN (m - 1) (R (1 - s) f t (O.2.2.2.2 - b) (O.2.2.2.2 - a))) : vN m (oTrn O R s a b S f t) := by
  intro z
  have h1 := hR (mul_nz z).2
  have := val_wrap (m := m - 1) (y := 31) (Or.inr (by omega)) (show 12 ≤ 12 + S ∧ 12 + S ≤ 19 by omega) h1.2.1 h1.1 (by omega)
  rw [show m - 1 + 1 = m by omega] at this
  exact this
theorem n_ard {R : xV} {s a b y S w f t p q m : Int} (hm : 3 ≤ m) (hS : 0 ≤ S ∧ S ≤ 7) (hw : 0 ≤ w ∧ w ≤ 7) (hy : neu y) (hp : 1 ≤ p - a ∧ p - a ≤ 9) (hR : vN (m - 2) (R s f t p q)) : nL m (oArd O R s a b y S w f t p q) := by
  unfold oArd
  have go : ∀ (x c h : Int), neu h → vN m ((R s f t p q).1 * x, c, nArd y S (R s f t p q).2.2 (p - a) h w) := by
    intro x c h hh z
    have h1 := hR (mul_nz z).1
    have h2 := val_wrap (m := m - 2) (y := y) hy (show 12 ≤ 12 + S ∧ 12 + S ≤ 19 by omega) h1.2.1 h1.1 (by omega)
    have h3 := val_app h2 (val_cons (s := 2 + (p - a)) (Or.inl (by omega)) (val_2 hh (show 12 ≤ 12 + w ∧ 12 + w ≤ 19 by omega)) (by omega)) (by omega)
    rw [show m - 2 + 1 + 1 = m by omega] at h3
    have e : ([y, 12 + S, 1] ++ ((R s f t p q).2.2 ++ [2])) ++ (2 + (p - a)) :: [h, 12 + w] = nArd y S (R s f t p q).2.2 (p - a) h w := by
      unfold nArd
      simp
    rw [e] at h3
    exact h3
  exact nL_cons (go _ _ 28 (Or.inr (by omega))) (nL_cons (go _ _ 29 (Or.inr (by omega))) nL_nil)
theorem n_ardQ {R : xV} {s a b y S w f t p m : Int} (hm : 3 ≤ m) (hS : 0 ≤ S ∧ S ≤ 7) (hw : 0 ≤ w ∧ w ≤ 7) (hy : neu y) (hp : 1 ≤ p - a ∧ p - a ≤ 9) (hR : ∀ q, p < q → q < b → vN (m - 2) (R s f t p q)) : ∀ n : Nat, p < b - n → nL m (oArdQ O R s a b y S w f t p n)
  | 0, _ => nL_nil
  | n + 1, h => nL_app (n_ard hm hS hw hy hp (hR _ (by omega) (by omega))) (n_ardQ hm hS hw hy hp hR n (by omega))
theorem n_ardP {R : xV} {s a b y S w f t m : Int} (hm : 3 ≤ m) (hS : 0 ≤ S ∧ S ≤ 7) (hw : 0 ≤ w ∧ w ≤ 7) (hy : neu y) (hb : b - a ≤ 10) (hR : ∀ p q, a < p → p < q → q < b → vN (m - 2) (R s f t p q)) : ∀ n : Nat, a < b - 1 - n → nL m (oArdP O R s a b y S w f t n)
  | 0, _ => nL_nil
  | n + 1, h => nL_app (n_ardQ hm hS hw hy (by omega) (fun q h1 h2 => hR _ q (by omega) h1 h2) (n + 1) (by omega)) (n_ardP hm hS hw hy hb hR n (by omega))
/-- the offers of a piece of more than one word -/
def oAll (O : xO) (R : xV) (s i j a b : Int) : List Tri := oSgd O s a b i (i + 1) j ++ (oSgd O s a b j i (j - 1) ++ (oTrn O R s a b i (i + 1) j :: oTrn O R s a b j i (j - 1) :: (oIn O R s i j a b ++ oAbout O R s i j a b)))
theorem n_all {R : xV} (hl : O.2.2.2.2 ≤ 10) {s i j a b : Int} (hij : 0 ≤ i ∧ i < j ∧ j ≤ 7) (hab : 0 ≤ a ∧ a < b ∧ b ≤ O.2.2.2.2) (hR : ∀ s i' j' a b, i ≤ i' → j' ≤ j → j' - i' < j - i → 0 ≤ a → b ≤ O.2.2.2.2 → vN (j' - i' + 1) (R s i' j' a b)) : nL (j - i + 1) (oAll O R s i j a b) := by
  refine nL_app (n_sgd (by omega) (by omega) (by omega)) (nL_app (n_sgd (by omega) (by omega) (by omega)) (nL_cons (n_trn (by omega) (by omega) ?_) (nL_cons (n_trn (by omega) (by omega) ?_) (nL_app ?_ ?_))))
  · rw [show j - i + 1 - 1 = j - (i + 1) + 1 by omega]
    exact hR _ _ _ _ _ (by omega) (by omega) (by omega) (by omega) (by omega)
  · rw [show j - i + 1 - 1 = (j - 1) - i + 1 by omega]
    exact hR _ _ _ _ _ (by omega) (by omega) (by omega) (by omega) (by omega)
  · unfold oIn
    split
    · by_cases c : a + 1 ≤ b - 1
      · refine n_ardP (by omega) (by omega) (by omega) (Or.inr (by omega)) (by omega) (fun p q p1 p2 p3 => ?_) _ (by omega)
        rw [show j - i + 1 - 2 = (j - 2) - i + 1 by omega]
        exact hR _ _ _ _ _ (by omega) (by omega) (by omega) (by omega) (by omega)
      · rw [show (b - 1 - (a + 1)).toNat = 0 by omega]
        exact nL_nil
    · exact nL_nil
  · unfold oAbout
    split
    · by_cases c : a + 1 ≤ b - 1
      · refine n_ardP (by omega) (by omega) (by omega) (Or.inr (by omega)) (by omega) (fun p q p1 p2 p3 => ?_) _ (by omega)
        rw [show j - i + 1 - 2 = j - (i + 2) + 1 by omega]
        exact hR _ _ _ _ _ (by omega) (by omega) (by omega) (by omega) (by omega)
      · rw [show (b - 1 - (a + 1)).toNat = 0 by omega]
        exact nL_nil
    · exact nL_nil
theorem v_all (hO : okO O) {R : xV} {s i j a b : Int} (hij : 0 ≤ i ∧ i < j ∧ j ≤ 7) (hab : 0 ≤ a ∧ a < b ∧ b ≤ O.2.2.2.2) (hR : ∀ s i' j' a b, i ≤ i' → j' ≤ j → j' - i' < j - i → 0 ≤ a → b ≤ O.2.2.2.2 → vW (j' - i' + 1) (R s i' j' a b)) : vL (j - i + 1) (oAll O R s i j a b) := by
  have hl := hO.2.2.2.2.2
  refine vL_app (v_sgd hO (by omega) (by omega) (by omega)) (vL_app (v_sgd hO (by omega) (by omega) (by omega)) (vL_cons (v_trn hO (by omega) ?_) (vL_cons (v_trn hO (by omega) ?_) (vL_app ?_ ?_))))
  · rw [show j - i + 1 - 1 = j - (i + 1) + 1 by omega]
    exact hR _ _ _ _ _ (by omega) (by omega) (by omega) (by omega) (by omega)
  · rw [show j - i + 1 - 1 = (j - 1) - i + 1 by omega]
    exact hR _ _ _ _ _ (by omega) (by omega) (by omega) (by omega) (by omega)
  · unfold oIn
    split
    · by_cases c : a + 1 ≤ b - 1
      · refine v_ardP hO (by omega) (by omega) (by omega) (by omega) (fun p q p1 p2 p3 => ?_) _ (by omega)
        rw [show j - i + 1 - 2 = (j - 2) - i + 1 by omega]
        exact hR _ _ _ _ _ (by omega) (by omega) (by omega) (by omega) (by omega)
      · rw [show (b - 1 - (a + 1)).toNat = 0 by omega]
        exact vL_nil
    · exact vL_nil
  · unfold oAbout
    split
    · by_cases c : a + 1 ≤ b - 1
      · refine v_ardP hO (by omega) (by omega) (by omega) (by omega) (fun p q p1 p2 p3 => ?_) _ (by omega)
        rw [show j - i + 1 - 2 = j - (i + 2) + 1 by omega]
        exact hR _ _ _ _ _ (by omega) (by omega) (by omega) (by omega) (by omega)
      · rw [show (b - 1 - (a + 1)).toNat = 0 by omega]
        exact vL_nil
    · exact vL_nil
theorem n_jn {A R : xV} {s i j a b k c x y : Int} (hk : 0 ≤ k ∧ k ≤ 6) (hy : 1 ≤ y) (hy2 : (R s (k + 2) j c b).1 ≠ 0 → 2 ≤ y) (hA : vN x (A s i k a c)) (hB : vN y (R s (k + 1) j c b)) (hC : vN (y - 1) (R s (k + 2) j c b)) : nL (x + y) (oJn O A R s i j a b k c) := by
  unfold oJn
  refine nL_cons (fun z => ?_) (nL_cons (fun z => ?_) nL_nil)
  · exact val_app (hA (mul_nz z).1) (hB (mul_nz z).2) hy
  · have z2 := (mul_nz (mul_nz z).2)
    have e : nLnk (k + 1) = [27, 12 + (k + 1)] := by unfold nLnk; rw [if_neg (by omega)]
    rw [e]
    have h1 := val_app (val_2 (x := 27) (s := 12 + (k + 1)) (Or.inr (by omega)) (by omega)) (hC z2.2) (by have := hy2 z2.2; omega)
    have h2 := val_app (hA z2.1) h1 (by have := hy2 z2.2; omega)
    rw [show x + (1 + (y - 1)) = x + y by omega] at h2
    exact h2
end SpecNval
