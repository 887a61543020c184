/-! Memo: what a place holds, an offer to it -/
section SpecOffer
variable {G : xG} {l : Launch} {d : Nat} {μ : xMem} {P : Int → xMem → Prop} {PV' : xMem → Prop}
def cap (n x : Int) : Int := if x < n then x else n
theorem cap_add {n a b m : Int} (hn : 1 ≤ n) (ha : 0 ≤ a) (hb : 1 ≤ b) (hm : 1 ≤ m) (h : cap n m = cap n b) : cap n (cap n a + m) = cap n (a + b) := by
  unfold cap at *
  grind
/-- counts are none below 0; where there is one, its name and cost are in bounds -/
def vT (m : Int) (T : Tri) : Prop := 0 ≤ T.1 ∧ (T.1 ≠ 0 → okN T.2.2 ∧ (T.2.2.length : Int) ≤ m ∧ 0 ≤ T.2.1 ∧ T.2.1 ≤ 100)
def Hd (μ : xMem) (q : Int) (T : Tri) : Prop := μ 29 q = cap (μ 27 7) T.1 ∧ (μ 27 8 = 0 → μ 30 q = 1000) ∧ (μ 27 8 ≠ 0 → (T.1 = 0 → μ 30 q = 1000) ∧ (T.1 ≠ 0 → μ 30 q = T.2.1 ∧ Nm μ q T.2.2))
def Md (μ : xMem) (q : Int) (T u : Tri) : Prop := μ 27 8 ≠ 0 ∧ μ 29 q = cap (μ 27 7) (T.1 + u.1) ∧ (T.1 = 0 → μ 30 q = 1000) ∧ (T.1 ≠ 0 → μ 30 q = T.2.1 ∧ Nm μ q T.2.2) ∧ u.2.1 ≤ μ 30 q
/-- nothing but the draft and the place q has changed -/
def FrQ (q : Int) (μ μ' : xMem) : Prop := ∀ k i, k ≠ 32 → (k ≠ 27 ∨ i ≠ 5) → (k ≠ 29 ∨ i ≠ q) → (k ≠ 30 ∨ i ≠ q) → (k ≠ 31 ∨ i < q * 3 ∨ q * 3 + 3 ≤ i) → μ' k i = μ k i
theorem FrQ.rf {q : Int} : FrQ q μ μ := fun _ _ _ _ _ _ _ => rfl
theorem FrQ.tr {q : Int} {m1 m2 m3 : xMem} (h1 : FrQ q m1 m2) (h2 : FrQ q m2 m3) : FrQ q m1 m3 := fun k i a b c e f => (h2 k i a b c e f).trans (h1 k i a b c e f)
theorem FrD.q {q : Int} {m1 m2 : xMem} (h : FrD m1 m2) : FrQ q m1 m2 := fun k i a b _ _ _ => h k i a b
theorem Md.kept {q : Int} {T u : Tri} {μ' : xMem} (h : Md μ q T u) (hf : FrD μ μ') : Md μ' q T u := by
  obtain ⟨h1, h2, h3, h4, h5⟩ := h
  have e8 := hf 27 8 (by decide) (Or.inr (by decide))
  have e7 := hf 27 7 (by decide) (Or.inr (by decide))
  have e9 := hf 29 q (by decide) (Or.inl (by decide))
  have e0 := hf 30 q (by decide) (Or.inl (by decide))
  exact ⟨by rw [e8]; exact h1, by rw [e9, e7]; exact h2, fun z => by rw [e0]; exact h3 z, fun z => ⟨by rw [e0]; exact (h4 z).1, (h4 z).2.kept hf⟩, by rw [e0]; exact h5⟩
theorem Nm.keptQ {q q' : Int} {N : List Int} {μ' : xMem} (h : Nm μ q' N) (hf : FrQ q μ μ') (hne : q' ≠ q) : Nm μ' q' N := by
  obtain ⟨h0, h1, h2⟩ := h
  have e : ∀ i, q' * 3 ≤ i → i < q' * 3 + 3 → μ' 31 i = μ 31 i := fun i a b => hf 31 i (by decide) (Or.inl (by decide)) (Or.inl (by decide)) (Or.inl (by decide)) (Or.inr (by omega))
  exact ⟨by rw [e _ (by omega) (by omega)]; exact h0, by rw [e _ (by omega) (by omega)]; exact h1, by rw [e _ (by omega) (by omega)]; exact h2⟩
theorem Hd.kept {q q' : Int} {T : Tri} {μ' : xMem} (h : Hd μ q' T) (hf : FrQ q μ μ') (hne : q' ≠ q) : Hd μ' q' T := by
  obtain ⟨h1, h2, h3⟩ := h
  have e8 := hf 27 8 (by decide) (Or.inr (by decide)) (Or.inl (by decide)) (Or.inl (by decide)) (Or.inl (by decide))
  have e7 := hf 27 7 (by decide) (Or.inr (by decide)) (Or.inl (by decide)) (Or.inl (by decide)) (Or.inl (by decide))
  have e9 := hf 29 q' (by decide) (Or.inl (by decide)) (Or.inr hne) (Or.inl (by decide)) (Or.inl (by decide))
  have e0 := hf 30 q' (by decide) (Or.inl (by decide)) (Or.inl (by decide)) (Or.inr hne) (Or.inl (by decide))
  refine ⟨by rw [e9, e7]; exact h1, fun z => by rw [e0]; exact h2 (by rw [← e8]; exact z), fun z => ?_⟩
  obtain ⟨a, b⟩ := h3 (by rw [← e8]; exact z)
  exact ⟨fun y => by rw [e0]; exact a y, fun y => ⟨by rw [e0]; exact (b y).1, (b y).2.keptQ hf hne⟩⟩
theorem s_offer {q more c : Int} {T u : Tri} (hq : 0 ≤ q ∧ q < 7922) (hl : 1 ≤ μ 27 7 ∧ μ 27 7 ≤ 1000) (hn : μ 27 8 = 0 ∨ μ 27 8 = 1) (hT : vT 36 T) (hH : Hd μ q T) (hm : 1 ≤ more ∧ more ≤ 1000000) (hu : 1 ≤ u.1) (hcap : cap (μ 27 7) more = cap (μ 27 7) u.1) (hc : iR c) (hcu : μ 27 8 ≠ 0 → c = u.2.1 ∧ u.2.1 ≤ 100)
    (h0 : ∀ μ', FrQ q μ μ' → Hd μ' q (mg T u) → P 0 μ') (h1 : ∀ μ', FrQ q μ μ' → Dr μ' [] → Md μ' q T u → P 1 μ') : CI G l (d + 2) mX5_offer [xr G 27, xi q, xi more, xi c] μ P := by
  obtain ⟨hH1, hH2, hH3⟩ := hH
  have hw : 0 ≤ μ 29 q ∧ μ 29 q ≤ 1000 := by
    rw [hH1]
    unfold cap
    have := hT.1
    split <;> omega
  have hcap2 : (if ((μ 29 q) + more) < (μ 27 7) then (μ 29 q) + more else μ 27 7) = cap (μ 27 7) (T.1 + u.1) := by
    rw [hH1]
    exact cap_add hl.1 hT.1 hu hm.1 hcap
  have hk0 : iR (μ 30 q) := by
    rcases hn with z | z
    · rw [hH2 z]; decide
    · obtain ⟨a, b⟩ := hH3 (by omega)
      by_cases y : T.1 = 0
      · rw [a y]; decide
      · rw [(b y).1]; have := (hT.2 y).2.2; omega
  apply E_X5_offer
  refine ⟨hq, by omega, by omega, by omega, fun hz => h0 _ ?_ ?_, fun hz => ⟨hc, hk0, fun hle => ?_, fun hgt => h0 _ ?_ ?_⟩⟩
  · intro k i a1 a2 a3 a4 a5
    simp only [st2]
    rw [if_neg (fun y => a3.elim (fun w => w y.1) (fun w => w y.2))]
  · rw [hcap2]
    refine ⟨by simp [st2, mg], fun _ => by simp [st2, hH2 hz], fun y => absurd hz (by simpa [st2] using y)⟩
  · refine s_fillL L_32 (by decide) (h1 _ ?_ ?_ ?_)
    · intro k i a1 a2 a3 a4 a5
      simp only [fil, st2]
      rw [if_neg (fun y => a1 y.1), if_neg (fun y => a2.elim (fun w => w y.1) (fun w => w y.2)), if_neg (fun y => a3.elim (fun w => w y.1) (fun w => w y.2))]
    · refine ⟨okN_nil, by simp, by simp [fil, st2], by simp [fil, st2, cd], by simp [fil, st2, cd], by simp [fil, st2, cd]⟩
    · obtain ⟨a, b⟩ := hH3 hz
      rw [hcap2]
      refine ⟨by simpa [fil, st2] using hz, by simp [fil, st2], fun y => by simp [fil, st2, a y], fun y => ⟨by simp [fil, st2, (b y).1], ?_⟩, ?_⟩
      · obtain ⟨n1, n2, n3⟩ := (b y).2
        exact ⟨by simp [fil, st2, n1], by simp [fil, st2, n2], by simp [fil, st2, n3]⟩
      · rw [← (hcu hz).1]
        simpa [fil, st2] using hle
  · intro k i a1 a2 a3 a4 a5
    simp only [st2]
    rw [if_neg (fun y => a3.elim (fun w => w y.1) (fun w => w y.2))]
  · rw [hcap2]
    obtain ⟨a, b⟩ := hH3 hz
    have hcc := hcu hz
    have hcc1 := hcc.1
    have hT0 : T.1 ≠ 0 := fun y => by
      rw [a y] at hgt
      have := hcc.2
      omega
    obtain ⟨b1, n1, n2, n3⟩ := b hT0
    have hmg : (mg T u).2 = T.2 := by
      unfold mg
      simp only
      rw [if_neg (by omega), if_neg]
      intro y
      rcases y with y | y | y
      · exact hT0 y
      · omega
      · omega
    refine ⟨by simp [st2, mg], fun y => absurd (by simpa [st2] using y) hz, fun _ => ⟨fun y => ?_, fun _ => ?_⟩⟩
    · exfalso
      have : T.1 + u.1 = 0 := y
      have := hT.1
      omega
    · rw [hmg]
      exact ⟨by simp [st2, b1], by simp [st2, n1], by simp [st2, n2], by simp [st2, n3]⟩
theorem s_isDraftLess {q : Int} (hq : 0 ≤ q ∧ q < 7922) {L N : List Int} (hL : Dr μ L) (hN : okN N) (hm : Nm μ q N) (h : ∀ r, bit r (cd 36 L < cd 36 N) → P r μ) : CI G l (d + 1) mX5_isDraftLess [xr G 27, xi q] μ P := by
  obtain ⟨o1, o2, o3, o4, o5, o6⟩ := hL
  obtain ⟨n0, n1, n2⟩ := hm
  have h32 : (32 : Int) ^ 12 = 1152921504606846976 := by decide
  have a0 := cd_bound 12 L o1
  have a1 := cd_bound 12 (L.drop 12) (okN_drop o1 12)
  have a2 := cd_bound 12 (L.drop 24) (okN_drop o1 24)
  have b0 := cd_bound 12 N hN
  have b1 := cd_bound 12 (N.drop 12) (okN_drop hN 12)
  have b2 := cd_bound 12 (N.drop 24) (okN_drop hN 24)
  rw [h32] at a0 a1 a2 b0 b1 b2
  have eL := cd_36 L
  have eN := cd_36 N
  generalize cd 12 L = x0 at *
  generalize cd 12 (L.drop 12) = x1 at *
  generalize cd 12 (L.drop 24) = x2 at *
  generalize cd 12 N = y0 at *
  generalize cd 12 (N.drop 12) = y1 at *
  generalize cd 12 (N.drop 24) = y2 at *
  rw [eL, eN] at h
  have jc : ∀ x y : Int, (jcmp x y = 0 ↔ x = y) ∧ (0 ≤ jcmp x y ↔ y ≤ x) := by
    intro x y
    unfold jcmp
    grind
  have i0 : (q * 3) + 0 = q * 3 := by omega
  have step : ∀ (k : Int) (m : xMem) (x y : Int), 0 ≤ k → k < 3 → m 32 k = x → m 31 (q * 3 + k) = y → lR x → lR y → (x = y → K_X5_isDraftLess_2 G l (d + 1) P q (k + 1) m) → (x < y → P 1 m) → (y < x → P 0 m) → K_X5_isDraftLess_2 G l (d + 1) P q k m := by
    intro k m x y k0 k1 ex ey rx ry c1 c2 c3
    apply B_X5_isDraftLess_2
    rw [ex, ey]
    refine ⟨by omega, fun _ => by omega, fun _ => ⟨by omega, by omega, rx, ry, fun z => c1 ((jc x y).1.mp z), fun z => ⟨fun w => c3 ?_, fun w => c2 ?_⟩⟩⟩
    · have := (jc x y).2.mp w
      have : x ≠ y := fun e => z ((jc x y).1.mpr e)
      omega
    · have : ¬ (y ≤ x) := fun e => by have := (jc x y).2.mpr e; omega
      omega
  apply E_X5_isDraftLess
  refine step 0 μ x0 y0 (by omega) (by omega) o4 (by rw [i0]; exact n0) (by omega) (by omega) (fun e0 => ?_) (fun c => h 1 (Or.inl ⟨rfl, by omega⟩)) (fun c => h 0 (Or.inr ⟨rfl, by omega⟩))
  refine step 1 μ x1 y1 (by omega) (by omega) o5 n1 (by omega) (by omega) (fun e1 => ?_) (fun c => h 1 (Or.inl ⟨rfl, by omega⟩)) (fun c => h 0 (Or.inr ⟨rfl, by omega⟩))
  refine step 2 μ x2 y2 (by omega) (by omega) o6 n2 (by omega) (by omega) (fun e2 => ?_) (fun c => h 1 (Or.inl ⟨rfl, by omega⟩)) (fun c => h 0 (Or.inr ⟨rfl, by omega⟩))
  apply B_X5_isDraftLess_2
  exact ⟨by omega, fun _ => h 0 (Or.inr ⟨rfl, by omega⟩), fun _ => by omega⟩
theorem s_keep_28 {q c : Int} (hq : 0 ≤ q ∧ q < 7922) {L : List Int} (hL : Dr μ L) (h : ∀ μ', FrQ q μ μ' → μ' 29 q = μ 29 q → μ' 30 q = c → Nm μ' q L → PV' μ') : K_X5_keep_28 G l (d + 1) PV' q c μ := by
  obtain ⟨o1, o2, o3, o4, o5, o6⟩ := hL
  apply B_X5_keep_28
  refine ⟨hq, by omega, by omega, h _ ?_ ?_ ?_ ?_⟩
  · intro k i a1 a2 a3 a4 a5
    simp only [cpy, st2]
    rw [if_neg (by omega), if_neg (fun y => a4.elim (fun w => w y.1) (fun w => w y.2))]
  · simp [cpy, st2]
  · simp [cpy, st2]
  · have e : ∀ j : Int, 0 ≤ j → j < 3 → cpy (st2 μ 30 q c) 32 0 31 (q * 3) 3 31 (q * 3 + j) = μ 32 j := by
      intro j j0 j1
      simp only [cpy]
      rw [if_pos ⟨trivial, by omega, by omega⟩, show (0 : Int) + (q * 3 + j - q * 3) = j by omega]
      simp [st2]
    have e0 := e 0 (by omega) (by omega)
    rw [Int.add_zero] at e0
    exact ⟨by rw [e0]; exact o4, by rw [e 1 (by omega) (by omega)]; exact o5, by rw [e 2 (by omega) (by omega)]; exact o6⟩
theorem s_keep {q c : Int} (hq : 0 ≤ q ∧ q < 7922) {T u : Tri} (hT : vT 36 T) (hu : 1 ≤ u.1) (hc0 : 0 ≤ u.2.1 ∧ u.2.1 ≤ 100) (hcu : c = u.2.1) (hL : Dr μ u.2.2) (hM : Md μ q T u) (h : ∀ μ', FrQ q μ μ' → Hd μ' q (mg T u) → PV' μ') : CV G l (d + 2) mX5_keep [xr G 27, xi q, xi c] μ PV' := by
  obtain ⟨h1, h2, h3, h4, h5⟩ := hM
  subst hcu
  have hk0 : iR (μ 30 q) := by
    by_cases y : T.1 = 0
    · rw [h3 y]; decide
    · rw [(h4 y).1]; have := (hT.2 y).2.2; omega
  have hs : (mg T u).1 = T.1 + u.1 := rfl
  have hsn : (mg T u).1 ≠ 0 := by have := hT.1; rw [hs]; omega
  have fin : ∀ μ', FrQ q μ μ' → μ' 29 q = μ 29 q → μ' 30 q = u.2.1 → Nm μ' q u.2.2 → (mg T u).2 = u.2 → Hd μ' q (mg T u) := by
    intro μ' f e9 e0 en eq2
    have e8 := f 27 8 (by decide) (Or.inr (by decide)) (Or.inl (by decide)) (Or.inl (by decide)) (Or.inl (by decide))
    have e7 := f 27 7 (by decide) (Or.inr (by decide)) (Or.inl (by decide)) (Or.inl (by decide)) (Or.inl (by decide))
    refine ⟨by rw [e9, e7, h2, hs], fun z => absurd (by rw [← e8]; exact z) h1, fun _ => ⟨fun z => absurd z hsn, fun _ => by rw [eq2]; exact ⟨e0, en⟩⟩⟩
  have stay : (mg T u).2 = T.2 → T.1 ≠ 0 → Hd μ q (mg T u) := by
    intro e z
    refine ⟨by rw [h2, hs], fun y => absurd y h1, fun _ => ⟨fun y => absurd y hsn, fun _ => by rw [e]; exact h4 z⟩⟩
  have hu0 : u.1 ≠ 0 := by omega
  apply E_X5_keep
  refine ⟨hq, by omega, hk0, fun z => ?_, fun z => ⟨fun y => by omega, fun y => ?_⟩⟩
  · refine s_keep_28 hq hL (fun μ' f e9 e0 en => h μ' f (fin μ' f e9 e0 en ?_))
    unfold mg
    simp only
    rw [if_neg hu0, if_pos]
    by_cases w : T.1 = 0
    · exact Or.inl w
    · exact Or.inr (Or.inl (by rw [← (h4 w).1]; exact z))
  · have w : T.1 ≠ 0 := fun e => by rw [h3 e] at y; omega
    obtain ⟨b1, b2⟩ := h4 w
    refine s_isDraftLess hq hL (hT.2 w).1 b2 (fun r hr => ⟨fun r0 => h μ FrQ.rf (stay ?_ w), fun r1 => ?_⟩)
    · unfold mg
      simp only
      rw [if_neg hu0, if_neg]
      intro k
      rcases k with k | k | k
      · exact w k
      · omega
      · rcases hr with hr | hr
        · omega
        · exact hr.2 k.2
    · refine s_keep_28 hq hL (fun μ' f e9 e0 en => h μ' f (fin μ' f e9 e0 en ?_))
      unfold mg
      simp only
      rw [if_neg hu0, if_pos]
      refine Or.inr (Or.inr ⟨by omega, ?_⟩)
      rcases hr with hr | hr
      · exact hr.2
      · exact absurd hr.1 r1
end SpecOffer
