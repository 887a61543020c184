/-! Log and the JDK's fill -/
section SpecLog
variable {G : xG} {l : Launch} {d : Nat} {μ : xMem} {P : Int → xMem → Prop} {PV : xMem → Prop}
abbrev bit (r : Int) (c : Prop) : Prop := (r = 1 ∧ c) ∨ (r = 0 ∧ ¬ c)
def LogAt (k ka kb kn : Nat) : Prop := LAY[k]? = some (.inr (4, [some (some ka), some (some kb), none])) ∧ LAY[ka]? = some (.inl (0, kn)) ∧ LAY[kb]? = some (.inl (0, kn)) ∧ kn < 2147483648 ∧ k ≠ ka ∧ k ≠ kb ∧ ka ≠ kb
theorem log4 : LogAt 4 5 6 120 := ⟨rfl, rfl, rfl, by decide, by decide, by decide, by decide⟩
theorem log7 : LogAt 7 8 9 240 := ⟨rfl, rfl, rfl, by decide, by decide, by decide, by decide⟩
theorem log10 : LogAt 10 11 12 120 := ⟨rfl, rfl, rfl, by decide, by decide, by decide, by decide⟩
theorem log20 : LogAt 20 21 22 60 := ⟨rfl, rfl, rfl, by decide, by decide, by decide, by decide⟩
theorem log54 : LogAt 54 55 56 60 := ⟨rfl, rfl, rfl, by decide, by decide, by decide, by decide⟩
theorem log68 : LogAt 68 69 70 30 := ⟨rfl, rfl, rfl, by decide, by decide, by decide, by decide⟩
variable {k ka kb kn : Nat}
theorem s_isFull (hL : LogAt k ka kb kn) (h0 : 0 ≤ μ k 2 ∧ μ k 2 ≤ kn) (h : ∀ r, bit r (μ k 2 = kn) → P r μ) : CI G l (d + 1) mX4_isFull [xr G k] μ P := by
  obtain ⟨hk, hka, hkb, hkn, -⟩ := hL
  apply E_X4_isFull hk hka hkb hkn
  grind
theorem s_add (hL : LogAt k ka kb kn) (h0 : 0 ≤ μ k 2 ∧ μ k 2 ≤ kn) {v w : Int} (h1 : μ k 2 = kn → P (-1) μ) (h2 : μ k 2 < kn → P (μ k 2) (st2 (st2 (st2 μ ka (μ k 2) w) kb (μ k 2) v) k 2 (μ k 2 + 1))) : CI G l (d + 2) mX4_add [xr G k, xi v, xi w] μ P := by
  obtain ⟨hk, hka, hkb, hkn, n1, n2, n3⟩ := id hL
  apply E_X4_add hk hka hkb hkn
  refine s_isFull hL h0 (fun r hr => ?_)
  have e1 : ∀ (m : xMem) (i x : Int), st2 m ka i x k 2 = m k 2 := fun m i x => by simp [st2, n1]
  have e2 : ∀ (m : xMem) (i x : Int), st2 m kb i x k 2 = m k 2 := fun m i x => by simp [st2, n2]
  simp only [e1, e2]
  refine ⟨fun hr0 => ⟨by grind, by grind, by grind, ?_⟩, fun hr1 => h1 (by grind)⟩
  rw [show μ k 2 + 1 - 1 = μ k 2 by omega]
  exact h2 (by grind)
/-- how many are known: the days of the first r are on t or ahead, those of the others behind it -/
theorem s_knownOn_5 (hL : LogAt k ka kb kn) {t : Int} (ht : iR t) (hd : ∀ i : Int, 0 ≤ i → i < kn → iR (μ ka i)) :
    ∀ (n : Nat) (v : Int), v = n → v ≤ kn → (∀ i, v ≤ i → i < μ k 2 → t < μ ka i) → (∀ r, 0 ≤ r → r ≤ v → (∀ i, r ≤ i → i < μ k 2 → t < μ ka i) → (0 < r → μ ka (r - 1) ≤ t) → P r μ) → K_X4_knownOn_5 G l (d + 1) P k ka kb kn t v μ := by
  obtain ⟨hk, hka, hkb, hkn, -⟩ := hL
  intro n
  induction n with
  | zero =>
    intro v hv h1 h2 h
    apply B_X4_knownOn_5 hk hka hkb hkn
    grind
  | succ n ih =>
    intro v hv h1 h2 h
    apply B_X4_knownOn_5 hk hka hkb hkn
    grind
theorem s_knownOn (hL : LogAt k ka kb kn) (h0 : 0 ≤ μ k 2 ∧ μ k 2 ≤ kn) {t : Int} (ht : iR t) (hd : ∀ i : Int, 0 ≤ i → i < kn → iR (μ ka i)) (hm : ∀ i j, 0 ≤ i → i ≤ j → j < μ k 2 → μ ka i ≤ μ ka j)
    (h : ∀ r, 0 ≤ r → r ≤ μ k 2 → (∀ i, 0 ≤ i → i < μ k 2 → (i < r ↔ μ ka i ≤ t)) → P r μ) : CI G l (d + 1) mX4_knownOn [xr G k, xi t] μ P := by
  obtain ⟨hk, hka, hkb, hkn, -⟩ := id hL
  apply E_X4_knownOn hk hka hkb hkn
  refine s_knownOn_5 hL ht hd (μ k 2).toNat _ (by omega) (by omega) (fun i h1 h2 => by omega) (fun r h1 h2 h3 h4 => h r h1 h2 (fun i i0 i1 => ⟨fun q => ?_, fun q => ?_⟩))
  · have := hm i (r - 1) i0 (by omega) (by omega)
    have := h4 (by omega)
    omega
  · rcases (show i < r ∨ r ≤ i by omega) with z | z
    · exact z
    · have := h3 i z i1
      omega
theorem s_latest_8 (hL : LogAt k ka kb kn) {c q : Int} (hc : iR c) (hs : ∀ i : Int, 0 ≤ i → i < kn → iR (μ kb i)) :
    ∀ (n : Nat) (v : Int), v + 1 = n → v < kn → (∀ i, v < i → i < q → μ kb i ≠ c) → v < q → (∀ r, (r = -1 ∧ ∀ i, 0 ≤ i → i < q → μ kb i ≠ c) ∨ (0 ≤ r ∧ r < q ∧ μ kb r = c ∧ ∀ i, r < i → i < q → μ kb i ≠ c) → P r μ) → K_X4_latest_8 G l (d + 1) P k ka kb kn c v μ := by
  obtain ⟨hk, hka, hkb, hkn, -⟩ := hL
  intro n
  induction n with
  | zero =>
    intro v hv h1 h2 h3 h
    apply B_X4_latest_8 hk hka hkb hkn
    grind
  | succ n ih =>
    intro v hv h1 h2 h3 h
    apply B_X4_latest_8 hk hka hkb hkn
    refine ⟨by omega, fun _ => by omega, fun _ => ⟨by omega, hs v (by omega) (by omega), hc, fun z => ?_, fun z => ?_⟩⟩
    · exact ih (v + -1) (by omega) (by omega) (fun i a b => by rcases (show i = v ∨ v < i by omega) with e | e; (rw [e]; exact z); exact h2 i e b) (by omega) h
    · exact h v (Or.inr ⟨by omega, h3, z, h2⟩)
theorem s_latest (hL : LogAt k ka kb kn) (h0 : 0 ≤ μ k 2 ∧ μ k 2 ≤ kn) {c t : Int} (hc : iR c) (ht : iR t) (hd : ∀ i : Int, 0 ≤ i → i < kn → iR (μ ka i)) (hs : ∀ i : Int, 0 ≤ i → i < kn → iR (μ kb i)) (hm : ∀ i j, 0 ≤ i → i ≤ j → j < μ k 2 → μ ka i ≤ μ ka j)
    (h : ∀ r, (r = -1 ∧ ∀ i, 0 ≤ i → i < μ k 2 → μ ka i ≤ t → μ kb i ≠ c) ∨ (0 ≤ r ∧ r < μ k 2 ∧ μ ka r ≤ t ∧ μ kb r = c ∧ ∀ i, r < i → i < μ k 2 → μ ka i ≤ t → μ kb i ≠ c) → P r μ) : CI G l (d + 2) mX4_latest [xr G k, xi c, xi t] μ P := by
  obtain ⟨hk, hka, hkb, hkn, -⟩ := id hL
  apply E_X4_latest hk hka hkb hkn
  refine s_knownOn hL h0 ht hd hm (fun q h1 h2 h3 => ?_)
  refine s_latest_8 hL (q := q) hc hs q.toNat _ (by omega) (by omega) (fun i a b => by omega) (by omega) (fun r hr => h r ?_)
  rcases hr with ⟨a, b⟩ | ⟨a, b, c, e⟩
  · exact Or.inl ⟨a, fun i i0 i1 i2 => b i i0 ((h3 i i0 i1).mpr i2)⟩
  · exact Or.inr ⟨a, by omega, (h3 r a (by omega)).mp b, c, fun i i0 i1 i2 => e i i0 ((h3 i (by omega) i1).mpr i2)⟩
end SpecLog
section SpecFill
variable {G : xG} {l : Launch} {d : Nat} {μ : xMem} {P : xMem → Prop}
def fil (μ : xMem) (k : Nat) (a b v : Int) : xMem := fun k' i => if k' = k ∧ a ≤ i ∧ i < b then v else μ k' i
theorem fil_0 (μ : xMem) (k : Nat) (a v : Int) : fil μ k a a v = μ := by
  funext k' i
  simp only [fil]
  rw [if_neg (by omega)]
theorem fil_st (μ : xMem) (k : Nat) (a b v : Int) (h : a < b) : fil (st2 μ k a v) k (a + 1) b v = fil μ k a b v := by
  funext k' i
  simp only [fil, st2]
  grind
theorem s_fillI {k0 n0 : Nat} (hk : LAY[k0]? = some (.inl (0, n0))) (hn : n0 < 2147483648) {v : Int} (h : P (fil μ k0 0 n0 v)) : CV G l (d + 1) mJ7_fill_53178 [xr G k0, xi v] μ P := by
  apply E_J7_fill_53178 hk hn
  have main : ∀ (n : Nat) (i : Int) (m : xMem), i + n = n0 → 0 ≤ i → P (fil m k0 i n0 v) → K_J7_fill_53178_5 G l (d + 1) P k0 n0 v i n0 m := by
    intro n
    induction n with
    | zero =>
      intro i m h1 h2 h3
      apply B_J7_fill_53178_5 hk hn
      rw [show i = (n0 : Int) by omega, fil_0] at h3
      grind
    | succ n ih =>
      intro i m h1 h2 h3
      apply B_J7_fill_53178_5 hk hn
      refine ⟨by omega, by omega, fun _ => by omega, fun z => ⟨by omega, ih _ _ (by omega) (by omega) ?_⟩⟩
      rw [fil_st _ _ _ _ _ z]
      exact h3
  exact main n0 0 μ (by omega) (by omega) h
theorem s_fillL {k0 n0 : Nat} (hk : LAY[k0]? = some (.inl (3, n0))) (hn : n0 < 2147483648) {v : Int} (h : P (fil μ k0 0 n0 v)) : CV G l (d + 1) mJ7_fill_d0a16 [xr G k0, xl v] μ P := by
  apply E_J7_fill_d0a16 hk hn
  have main : ∀ (n : Nat) (i : Int) (m : xMem), i + n = n0 → 0 ≤ i → P (fil m k0 i n0 v) → K_J7_fill_d0a16_6 G l (d + 1) P k0 n0 v i n0 m := by
    intro n
    induction n with
    | zero =>
      intro i m h1 h2 h3
      apply B_J7_fill_d0a16_6 hk hn
      rw [show i = (n0 : Int) by omega, fil_0] at h3
      grind
    | succ n ih =>
      intro i m h1 h2 h3
      apply B_J7_fill_d0a16_6 hk hn
      refine ⟨by omega, by omega, fun _ => by omega, fun z => ⟨by omega, ih _ _ (by omega) (by omega) ?_⟩⟩
      rw [fil_st _ _ _ _ _ z]
      exact h3
  exact main n0 0 μ (by omega) (by omega) h
end SpecFill
