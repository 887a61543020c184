/-! the readings' bounds -/
section SpecValid
/-- bounds of what m words make -/
def vW (m : Int) (T : Tri) : Prop := 0 ≤ T.1 ∧ (T.1 ≠ 0 → okN T.2.2 ∧ (T.2.2.length : Int) ≤ 4 * m - 2 ∧ 0 ≤ T.2.1 ∧ T.2.1 ≤ 2 * m)
def vL (m : Int) (us : List Tri) : Prop := ∀ u ∈ us, vW m u
theorem vW_T0 (m : Int) : vW m T0 := ⟨Int.le_refl _, fun h => absurd rfl h⟩
theorem vW.le {m n : Int} {T : Tri} (h : vW m T) (hm : m ≤ n) : vW n T := ⟨h.1, fun z => by obtain ⟨a, b, c, e⟩ := h.2 z; exact ⟨a, by omega, c, by omega⟩⟩
theorem vW.T {m : Int} {T : Tri} (h : vW m T) (hm : m ≤ 9) : vT 36 T := ⟨h.1, fun z => by obtain ⟨a, b, c, e⟩ := h.2 z; exact ⟨a, by omega, c, by omega⟩⟩
theorem vW_mg {m : Int} {T u : Tri} (h1 : vW m T) (h2 : vW m u) : vW m (mg T u) := by
  unfold mg
  refine ⟨by have := h1.1; have := h2.1; show 0 ≤ T.1 + u.1; omega, fun z => ?_⟩
  have z' : T.1 + u.1 ≠ 0 := z
  simp only
  by_cases c : u.1 = 0
  · rw [if_pos c]
    exact h1.2 (by omega)
  · rw [if_neg c]
    by_cases c2 : T.1 = 0 ∨ u.2.1 < T.2.1 ∨ (u.2.1 = T.2.1 ∧ cd 36 u.2.2 < cd 36 T.2.2)
    · rw [if_pos c2]
      exact h2.2 c
    · rw [if_neg c2]
      exact h1.2 (fun q => c2 (Or.inl q))
theorem vW_mgL {m : Int} : ∀ (us : List Tri) {T : Tri}, vW m T → vL m us → vW m (mgL T us)
  | [], T, h, _ => h
  | u :: us, T, h, hu => by
    rw [mgL_cons]
    exact vW_mgL us (vW_mg h (hu u (List.mem_cons_self ..))) (fun x hx => hu x (List.mem_cons_of_mem _ hx))
theorem vL_nil {m : Int} : vL m [] := fun _ h => nomatch h
theorem vL_cons {m : Int} {u : Tri} {us : List Tri} (h1 : vW m u) (h2 : vL m us) : vL m (u :: us) := fun x hx => (List.mem_cons.mp hx).elim (fun e => e ▸ h1) (h2 x)
theorem vL_app {m : Int} {us vs : List Tri} (h1 : vL m us) (h2 : vL m vs) : vL m (us ++ vs) := fun x hx => (List.mem_append.mp hx).elim (h1 x) (h2 x)
/-- the plays' answers are none below 0; the answer has 1 to 10 letters -/
def okO (O : xO) : Prop := (∀ p ah be tg, 0 ≤ O.1 p ah be tg) ∧ (∀ p ah be tg, 0 ≤ O.2.1 p ah be tg) ∧ (∀ kd s a b f e, 0 ≤ O.2.2.1 kd s a b f e) ∧ (∀ p pl, 0 ≤ O.2.2.2.1 p pl) ∧ 1 ≤ O.2.2.2.2 ∧ O.2.2.2.2 ≤ 10
theorem ok1 {s : Int} (h : 1 ≤ s ∧ s ≤ 31) : okN [s] := okN_cons h okN_nil
theorem wds_ok : ∀ (n : Nat) (f : Int), 0 ≤ f → f + n ≤ 20 → okN (wds n f)
  | 0, _, _, _ => okN_nil
  | n + 1, f, h0, h1 => okN_cons (by omega) (wds_ok n (f + 1) (by omega) (by omega))
variable {O : xO}
theorem v_spr (hO : okO O) {k s a b S f t y m : Int} (hm : m = t - f + 2) (hft : 0 ≤ f ∧ f ≤ t ∧ t ≤ 7) (hS : 0 ≤ S ∧ S ≤ 7) (hy : 1 ≤ y ∧ y ≤ 31) : vW m (O.2.2.2.1 S k * O.2.2.1 k s a b f t, 1, nSpr y S f t) := by
  refine ⟨Int.mul_nonneg (hO.2.2.2.1 _ _) (hO.2.2.1 _ _ _ _ _ _), fun _ => ⟨?_, ?_, show (0 : Int) ≤ 1 by decide, by show (1 : Int) ≤ 2 * m; omega⟩⟩
  · exact okN_app (okN_cons hy (okN_cons (by omega) (ok1 (by omega)))) (okN_app (wds_ok _ _ hft.1 (by omega)) (ok1 (by omega)))
  · show ((nSpr y S f t).length : Int) ≤ _
    unfold nSpr
    simp [wds_len]
    omega
theorem v_cut {S w how y m x c : Int} (hm : 2 ≤ m) (hw : 0 ≤ w ∧ w ≤ 7) (hS : 0 ≤ S ∧ S ≤ 7) (hy : 1 ≤ y ∧ y ≤ 31) (hh : how = 28 ∨ how = 29) (hx : 0 ≤ x) (hc : 0 ≤ c ∧ c ≤ 3) : vW m (x, c, nCut y S how w) := by
  refine ⟨hx, fun _ => ⟨?_, ?_, hc.1, by show c ≤ 2 * m; omega⟩⟩
  · exact okN_cons hy (okN_cons (by omega) (okN_cons (by omega) (okN_cons (by omega) (okN_cons (by omega) (ok1 (by omega))))))
  · show ((nCut y S how w).length : Int) ≤ _
    unfold nCut
    simp
    omega
theorem v_sgd (hO : okO O) {s a b S f t m : Int} (hm : m = t - f + 2) (hft : 0 ≤ f ∧ f ≤ t ∧ t ≤ 7) (hS : 0 ≤ S ∧ S ≤ 7) : vL m (oSgd O s a b S f t) := by
  unfold oSgd
  refine vL_app (vL_cons (v_spr hO hm hft hS (by omega)) (vL_cons (v_spr hO hm hft hS (by omega)) (vL_cons (v_spr hO hm hft hS (by omega)) (vL_cons (v_spr hO hm hft hS (by omega)) vL_nil)))) ?_
  have p1 : ∀ ah be tg k, 0 ≤ O.2.2.2.1 S k * O.1 f ah be tg := fun ah be tg k => Int.mul_nonneg (hO.2.2.2.1 _ _) (hO.1 _ _ _ _)
  have p2 : ∀ ah be tg k, 0 ≤ O.2.2.2.1 S k * O.2.1 f ah be tg := fun ah be tg k => Int.mul_nonneg (hO.2.2.2.1 _ _) (hO.2.1 _ _ _ _)
  by_cases c : f = t
  · rw [if_pos c]
    exact vL_cons (v_cut (by omega) (by omega) hS (by omega) (by omega) (p1 _ _ _ _) (by omega)) (vL_cons (v_cut (by omega) (by omega) hS (by omega) (by omega) (p2 _ _ _ _) (by omega)) (vL_cons (v_cut (by omega) (by omega) hS (by omega) (by omega) (p1 _ _ _ _) (by omega)) (vL_cons (v_cut (by omega) (by omega) hS (by omega) (by omega) (p2 _ _ _ _) (by omega)) vL_nil)))
  · rw [if_neg c]
    exact vL_nil
theorem mul_nz {x y : Int} (h : x * y ≠ 0) : x ≠ 0 ∧ y ≠ 0 := ⟨fun e => h (by rw [e, Int.zero_mul]), fun e => h (by rw [e, Int.mul_zero])⟩
theorem v_trn (hO : okO O) {R : xV} {s a b S f t m : Int} (hS : 0 ≤ S ∧ S ≤ 7) (hR : vW (m - 1) (R (1 - s) f t (O.2.2.2.2 - b) (O.2.2.2.2 - a))) : vW m (oTrn O R s a b S f t) := by
  unfold oTrn
  refine ⟨Int.mul_nonneg (hO.2.2.2.1 _ _) hR.1, fun z => ?_⟩
  obtain ⟨r1, r2, r3, r4⟩ := hR.2 (mul_nz z).2
  refine ⟨okN_app (okN_cons (by omega) (okN_cons (by omega) (ok1 (by omega)))) (okN_app r1 (ok1 (by omega))), ?_, by simp only; omega, by simp only; omega⟩
  simp only [nTrn]
  simp
  omega
theorem v_ard (hO : okO O) {R : xV} {s a b y S w f t p q m : Int} (hS : 0 ≤ S ∧ S ≤ 7) (hw : 0 ≤ w ∧ w ≤ 7) (hy : 1 ≤ y ∧ y ≤ 31) (hp : 1 ≤ p - a ∧ p - a ≤ 9) (hR : vW (m - 2) (R s f t p q)) : vL m (oArd O R s a b y S w f t p q) := by
  unfold oArd
  have go : ∀ (x c h : Int), 0 ≤ x → 0 ≤ c → c ≤ 2 → (h = 28 ∨ h = 29) → vW m ((R s f t p q).1 * x, 1 + (R s f t p q).2.1 + c, nArd y S (R s f t p q).2.2 (p - a) h w) := by
    intro x c h hx hc hc2 hh
    refine ⟨Int.mul_nonneg hR.1 hx, fun z => ?_⟩
    obtain ⟨r1, r2, r3, r4⟩ := hR.2 (mul_nz z).1
    refine ⟨okN_app (okN_cons hy (okN_cons (by omega) (ok1 (by omega)))) (okN_app r1 (okN_cons (by omega) (okN_cons (by omega) (okN_cons (by omega) (ok1 (by omega)))))), ?_, by simp only; omega, by simp only; omega⟩
    simp only [nArd]
    simp
    omega
  exact vL_cons (go _ 2 28 (hO.1 _ _ _ _) (by omega) (by omega) (by omega)) (vL_cons (go _ 1 29 (hO.2.1 _ _ _ _) (by omega) (by omega) (by omega)) vL_nil)
theorem v_ardQ (hO : okO O) {R : xV} {s a b y S w f t p m : Int} (hS : 0 ≤ S ∧ S ≤ 7) (hw : 0 ≤ w ∧ w ≤ 7) (hy : 1 ≤ y ∧ y ≤ 31) (hp : 1 ≤ p - a ∧ p - a ≤ 9) (hR : ∀ q, p < q → q < b → vW (m - 2) (R s f t p q)) : ∀ n : Nat, p < b - n → vL m (oArdQ O R s a b y S w f t p n)
  | 0, _ => vL_nil
  | n + 1, h => vL_app (v_ard hO hS hw hy hp (hR _ (by omega) (by omega))) (v_ardQ hO hS hw hy hp hR n (by omega))
theorem v_ardP (hO : okO O) {R : xV} {s a b y S w f t m : Int} (hS : 0 ≤ S ∧ S ≤ 7) (hw : 0 ≤ w ∧ w ≤ 7) (hy : 1 ≤ y ∧ y ≤ 31) (hb : b - a ≤ 10) (hR : ∀ p q, a < p → p < q → q < b → vW (m - 2) (R s f t p q)) : ∀ n : Nat, a < b - 1 - n → vL m (oArdP O R s a b y S w f t n)
  | 0, _ => vL_nil
  | n + 1, h => vL_app (v_ardQ hO hS hw hy (by omega) (fun q h1 h2 => hR _ q (by omega) h1 h2) (n + 1) (by omega)) (v_ardP hO hS hw hy hb hR n (by omega))
theorem v_piece (hO : okO O) {R : xV} {s i j a b : Int} (hij : 0 ≤ i ∧ i ≤ j ∧ j ≤ 7) (hab : 0 ≤ a ∧ a < b ∧ b ≤ O.2.2.2.2) (hR : ∀ s i' j' a b, i ≤ i' → j' ≤ j → j' - i' < j - i → 0 ≤ a → b ≤ O.2.2.2.2 → vW (j' - i' + 1) (R s i' j' a b)) : vW (j - i + 1) (pieceEq O R s i j a b) := by
  have hL := hO.2.2.2.2.2
  unfold pieceEq
  by_cases e : i = j
  · rw [if_pos e]
    refine vW_mgL _ (vW_T0 _) (vL_cons ⟨hO.1 _ _ _ _, fun _ => ⟨okN_cons (by omega) (ok1 (by omega)), ?_, by simp only; omega, by simp only; omega⟩⟩ (vL_cons ⟨hO.2.1 _ _ _ _, fun _ => ⟨okN_cons (by omega) (ok1 (by omega)), ?_, by simp only; omega, by simp only; omega⟩⟩ vL_nil))
    · simp; omega
    · simp; omega
  · rw [if_neg e]
    refine vW_mgL _ (vW_T0 _) (vL_app (v_sgd hO (by omega) (by omega) (by omega)) (vL_app (v_sgd hO (by omega) (by omega) (by omega)) (vL_cons (v_trn hO (by omega) ?_) (vL_cons (v_trn hO (by omega) ?_) (vL_app ?_ ?_)))))
    · rw [show j - i + 1 - 1 = j - (i + 1) + 1 by omega]
      exact hR _ _ _ _ _ (by omega) (by omega) (by omega) (by omega) (by omega)
    · rw [show j - i + 1 - 1 = (j - 1) - i + 1 by omega]
      exact hR _ _ _ _ _ (by omega) (by omega) (by omega) (by omega) (by omega)
    · unfold oIn
      split
      · by_cases c : a + 1 ≤ b - 1
        · refine v_ardP hO (by omega) (by omega) (by omega) (by omega) (fun p q p1 p2 p3 => ?_) _ (by omega)
          rw [show j - i + 1 - 2 = (j - 2) - i + 1 by omega]
          exact hR _ _ _ _ _ (by omega) (by omega) (by omega) (by omega) (by omega)
        · rw [show (b - 1 - (a + 1)).toNat = 0 by omega]
          exact vL_nil
      · exact vL_nil
    · unfold oAbout
      split
      · by_cases c : a + 1 ≤ b - 1
        · refine v_ardP hO (by omega) (by omega) (by omega) (by omega) (fun p q p1 p2 p3 => ?_) _ (by omega)
          rw [show j - i + 1 - 2 = j - (i + 2) + 1 by omega]
          exact hR _ _ _ _ _ (by omega) (by omega) (by omega) (by omega) (by omega)
        · rw [show (b - 1 - (a + 1)).toNat = 0 by omega]
          exact vL_nil
      · exact vL_nil
theorem v_jn (hO : okO O) {A R : xV} {s i j a b k c m : Int} (hk : 0 ≤ k ∧ k ≤ 6) {x y : Int} (hm : x + y ≤ m) (hA : vW x (A s i k a c)) (hB : vW y (R s (k + 1) j c b)) (hC : vW (y - 1) (R s (k + 2) j c b)) : vL m (oJn O A R s i j a b k c) := by
  unfold oJn
  refine vL_cons ⟨Int.mul_nonneg hA.1 hB.1, fun z => ?_⟩ (vL_cons ⟨Int.mul_nonneg (hO.2.2.2.1 _ _) (Int.mul_nonneg hA.1 hC.1), fun z => ?_⟩ vL_nil)
  · obtain ⟨a1, a2, a3, a4⟩ := hA.2 (mul_nz z).1
    obtain ⟨b1, b2, b3, b4⟩ := hB.2 (mul_nz z).2
    refine ⟨okN_app a1 (okN_app okN_nil b1), ?_, by simp only [jn]; omega, by simp only [jn]; omega⟩
    simp only [jn, nLnk]
    simp
    omega
  · obtain ⟨a1, a2, a3, a4⟩ := hA.2 (mul_nz (mul_nz z).2).1
    obtain ⟨b1, b2, b3, b4⟩ := hC.2 (mul_nz (mul_nz z).2).2
    have e : nLnk (k + 1) = [27, 12 + (k + 1)] := by unfold nLnk; rw [if_neg (by omega)]
    rw [e]
    refine ⟨okN_app a1 (okN_app (okN_cons (by omega) (ok1 (by omega))) b1), ?_, by simp only; omega, by simp only; omega⟩
    simp
    omega
theorem v_row (hO : okO O) {A R : xV} {s i j a b : Int} (hij : 0 ≤ i ∧ i ≤ j ∧ j ≤ 7) (hab : 0 ≤ a ∧ a < b ∧ b ≤ O.2.2.2.2) (hA : ∀ j' c, i ≤ j' → j' ≤ j → a < c → c ≤ b → vW (j' - i + 1) (A s i j' a c)) (hR : ∀ i' c, i < i' → a < c → c < b → vW (j - i' + 1) (R s i' j c b)) : vW (j - i + 1) (rowEq O A R s i j a b) := by
  unfold rowEq
  have hC : ∀ (k : Int) (n : Nat), i ≤ k → k < j → a < b - n → vL (j - i + 1) (oJnC O A R s i j a b k n) := by
    intro k n hk hkj
    induction n with
    | zero => intro _; exact vL_nil
    | succ n ih =>
      intro hn
      refine vL_app (v_jn hO (x := k - i + 1) (y := j - (k + 1) + 1) (by omega) (by omega) (hA k _ hk (by omega) (by omega) (by omega)) (hR _ _ (by omega) (by omega) (by omega)) ?_) (ih (by omega))
      rw [show j - (k + 1) + 1 - 1 = j - (k + 2) + 1 by omega]
      exact hR _ _ (by omega) (by omega) (by omega)
  have hK : ∀ n : Nat, (n : Int) ≤ j - i → vL (j - i + 1) (oJnK O A R s i j a b n) := by
    intro n
    induction n with
    | zero => intro _; exact vL_nil
    | succ n ih =>
      intro hn
      exact vL_app (hC _ _ (by omega) (by omega) (by omega)) (ih (by omega))
  exact vW_mgL _ (vW_T0 _) (vL_cons (hA j b hij.2.1 (Int.le_refl _) hab.2.1 (Int.le_refl _)) (hK _ (by omega)))
theorem v_PR (hO : okO O) : ∀ (f : Nat) (s i j a b : Int), 0 ≤ i → j ≤ 7 → 0 ≤ a → b ≤ O.2.2.2.2 → vW (j - i + 1) ((PR O f).1 s i j a b) ∧ vW (j - i + 1) ((PR O f).2 s i j a b)
  | 0, _, _, _, _, _, _, _, _, _ => ⟨vW_T0 _, vW_T0 _⟩
  | f + 1, s, i, j, a, b, hi, hj, ha, hb => by
    have hp : ∀ s i j a b : Int, 0 ≤ i → j ≤ 7 → 0 ≤ a → b ≤ O.2.2.2.2 → vW (j - i + 1) ((PR O (f + 1)).1 s i j a b) := by
      intro s i j a b hi hj ha hb
      show vW (j - i + 1) (if i ≤ j ∧ a < b then pieceEq O (PR O f).2 s i j a b else T0)
      split
      · exact v_piece hO ⟨hi, by omega, hj⟩ ⟨ha, by omega, hb⟩ (fun s' i' j' a' b' h1 h2 _ h3 h4 => (v_PR hO f s' i' j' a' b' (by omega) (by omega) h3 h4).2)
      · exact vW_T0 _
    refine ⟨hp s i j a b hi hj ha hb, ?_⟩
    show vW (j - i + 1) (if i ≤ j ∧ a < b then rowEq O (PR O (f + 1)).1 (PR O f).2 s i j a b else T0)
    split
    · exact v_row hO ⟨hi, by omega, hj⟩ ⟨ha, by omega, hb⟩ (fun j' c h1 h2 h3 h4 => hp _ _ _ _ _ hi (by omega) ha (by omega)) (fun i' c h1 h2 h3 => (v_PR hO f _ _ _ _ _ (by omega) hj (by omega) hb).2)
    · exact vW_T0 _
theorem v_PV (hO : okO O) {s i j a b : Int} (hi : 0 ≤ i) (hj : j ≤ 7) (ha : 0 ≤ a) (hb : b ≤ O.2.2.2.2) : vW (j - i + 1) (PV O s i j a b) := (v_PR hO 9 s i j a b hi hj ha hb).1
theorem v_RV (hO : okO O) {s i j a b : Int} (hi : 0 ≤ i) (hj : j ≤ 7) (ha : 0 ≤ a) (hb : b ≤ O.2.2.2.2) : vW (j - i + 1) (RV O s i j a b) := (v_PR hO 9 s i j a b hi hj ha hb).2
end SpecValid
