/-! the model: runs, words around, meanings -/
section SpecMTest
variable {G : xG} {l : Launch} {d : Nat} {μ ν α : xMem} {P : Int → xMem → Prop} {PV' : xMem → Prop} {tl w t : Int}
/-- the model's own lists are those of α -/
def MA (α μ : xMem) : Prop := (∀ k i, 76 ≤ k → k ≤ 89 → μ k i = α k i) ∧ ∀ i, 20 ≤ i → i ≤ 23 → μ 74 i = α 74 i
/-- what the model knows on day t, the clue's words, the answer -/
def Kn (α : xMem) (t : Int) (μ : xMem) : Prop := (∀ v, 0 ≤ v → v < α 74 20 → ∃ m : Nat, m < 1024 ∧ μ 90 v = (m : Int) ∧ ∀ pl : Nat, pl < 10 → (m.testBit pl = true ↔ isSg α t v pl)) ∧ ∀ a b, 0 ≤ a → a < α 74 20 → 0 ≤ b → b < α 74 20 → μ 91 (120 * a + b) = ind (isMn α t a b)
def MR (α : xMem) (tl w t : Int) (μ : xMem) : Prop := MA α μ ∧ Kn α t μ ∧ μ 74 41 = α 87 tl ∧ (2 ≤ α 87 tl ∧ α 87 tl ≤ 8) ∧ (∀ p, 0 ≤ p → p < α 87 tl → μ 100 p = cwd α tl p ∧ 0 ≤ cwd α tl p ∧ cwd α tl p < α 74 20) ∧ μ 74 42 = α 77 w ∧ (0 ≤ w ∧ w < α 74 20) ∧ ∀ k, 0 ≤ k → k < α 77 w → μ 101 k = α 76 (10 * w + k)
def md_Run (μ : xMem) (F : Int → Int) (n : Int) : Prop := μ 74 43 = n ∧ (1 ≤ n ∧ n ≤ 10) ∧ ∀ m, 0 ≤ m → m < n → μ 102 m = F m ∧ 97 ≤ F m ∧ F m ≤ 122
def Aro (μ : xMem) (F : Int → Int) (n : Int) : Prop := μ 74 44 = n ∧ (1 ≤ n ∧ n ≤ 10) ∧ ∀ m, 0 ≤ m → m < n → μ 103 m = F m ∧ 97 ≤ F m ∧ F m ≤ 122
/-- only the scratch of reading has changed: the tables 92..99 too -/
def FmS (μ ν : xMem) : Prop := ∀ k i, (k < 92 ∨ 107 ≤ k ∨ k = 100 ∨ k = 101) → (k ≠ 74 ∨ i < 43 ∨ 49 < i) → ν k i = μ k i
theorem FmS.rf : FmS μ μ := fun _ _ _ _ => rfl
theorem FmS.tr {m1 m2 m3 : xMem} (h1 : FmS m1 m2) (h2 : FmS m2 m3) : FmS m1 m3 := fun k i a b => (h2 k i a b).trans (h1 k i a b)
theorem FmC.s (h : FmC μ ν) : FmS μ ν := fun k i a b => h k i (by omega) (by omega) (by omega)
theorem MR.kept (h : MR α tl w t μ) (hf : FmS μ ν) : MR α tl w t ν := by
  obtain ⟨⟨h1, h2⟩, ⟨h3, h4⟩, h5, h6, h7, h8, h9, h10⟩ := h
  refine ⟨⟨fun k i a b => ?_, fun i a b => ?_⟩, ⟨fun v a b => ?_, fun a b x1 x2 x3 x4 => ?_⟩, ?_, h6, fun p a b => ?_, ?_, h9, fun k a b => ?_⟩
  · rw [hf k i (by omega) (by omega)]; exact h1 k i a b
  · rw [hf 74 i (by omega) (by omega)]; exact h2 i a b
  · rw [hf 90 v (by omega) (by omega)]; exact h3 v a b
  · rw [hf 91 _ (by omega) (by omega)]; exact h4 a b x1 x2 x3 x4
  · rw [hf 74 41 (by omega) (by omega)]; exact h5
  · rw [hf 100 _ (by omega) (by omega)]; exact h7 p a b
  · rw [hf 74 42 (by omega) (by omega)]; exact h8
  · rw [hf 101 _ (by omega) (by omega)]; exact h10 k a b
/-- the letters p to q of the answer, as a side's a to b -/
def sdA (L s p q : Int) : Int := if s = 0 then p else L - q
def sdB (L s p q : Int) : Int := if s = 0 then q else L - p
theorem s_takeRun {s p q : Int} (hw : wfW α) (hR : MR α tl w t μ) (hs : s = 0 ∨ s = 1) (hp : 0 ≤ p ∧ p < q ∧ q ≤ α 77 w) (h : ∀ ν, md_Run ν (tgF α w (tgA s (sdA (α 77 w) s p q) (sdB (α 77 w) s p q))) (q - p) → (∀ k i, k ≠ 102 → (k ≠ 74 ∨ i ≠ 43) → ν k i = μ k i) → PV' ν) : CV G l (d + 1) mX12_takeRun [xr G 74, xi p, xi q, xi s] μ PV' := by
  obtain ⟨-, -, -, -, -, r6, r7, r8⟩ := hR
  have hl := hw.2 w r7.1 r7.2
  have tgv : ∀ m, 0 ≤ m → m < q - p → tgF α w (tgA s (sdA (α 77 w) s p q) (sdB (α 77 w) s p q)) m = (if s = 0 then α 76 (10 * w + (p + m)) else α 76 (10 * w + (q - 1 - m))) := by
    intro m m0 m1
    unfold tgF tgA ansF sdA sdB
    simp only
    rcases hs with rfl | rfl
    · rw [if_pos rfl, if_pos rfl, if_pos rfl, if_pos rfl, if_pos m1]
    · simp only [if_neg (show ¬ (1 : Int) = 0 by decide)]
      rw [if_pos (by omega)]
      congr 1
      omega
  apply E_X12_takeRun
  have main : ∀ (N : Nat) (v : Int) (ν : xMem), v + N = q - p → 0 ≤ v → ν 74 43 = q - p → (∀ k i, k ≠ 102 → (k ≠ 74 ∨ i ≠ 43) → ν k i = μ k i) → (∀ m, 0 ≤ m → m < v → ν 102 m = (if s = 0 then α 76 (10 * w + (p + m)) else α 76 (10 * w + (q - 1 - m)))) → K_X12_takeRun_10 G l (d + 1) PV' p q s v ν := by
    intro N
    induction N with
    | zero =>
      intro v ν hv v0 hz hf hi
      apply B_X12_takeRun_10
      rw [hz]
      refine ⟨by omega, by omega, fun _ => h ν ⟨hz, by omega, fun m m0 m1 => ?_⟩ hf, fun z => by omega⟩
      rw [tgv m m0 m1]
      refine ⟨hi m m0 (by omega), ?_⟩
      split
      · exact hl.2 _ (by omega) (by omega)
      · exact hl.2 _ (by omega) (by omega)
    | succ N ih =>
      intro v ν hv v0 hz hf hi
      have e101 : ∀ k, 0 ≤ k → k < α 77 w → ν 101 k = α 76 (10 * w + k) := fun k a b => by rw [hf 101 k (by decide) (Or.inl (by decide))]; exact r8 k a b
      have step : ∀ x, x = (if s = 0 then α 76 (10 * w + (p + v)) else α 76 (10 * w + (q - 1 - v))) → K_X12_takeRun_10 G l (d + 1) PV' p q s (v + 1) (st2 ν 102 v x) := by
        intro x hx
        refine ih (v + 1) _ (by omega) (by omega) (by simp [st2]; exact hz) (fun k i a b => by rw [← hf k i a b]; unfold st2; grind) (fun m m0 m1 => ?_)
        have e : (st2 ν 102 v x) 102 m = if m = v then x else ν 102 m := by simp [st2]
        rw [e]
        by_cases c : m = v
        · rw [if_pos c, hx, c]
        · rw [if_neg c]; exact hi m m0 (by omega)
      apply B_X12_takeRun_10
      rw [hz]
      refine ⟨by omega, by omega, fun z => by omega, fun _ => ⟨by omega, fun z => ⟨by omega, by omega, step _ ?_⟩, fun z => ⟨by omega, by omega, step _ ?_⟩⟩⟩
      · rw [if_neg z]; exact e101 _ (by omega) (by omega)
      · rw [if_pos z]; exact e101 _ (by omega) (by omega)
  exact main (q - p).toNat 0 _ (by omega) (by omega) (by simp [st2]) (fun k i a b => by unfold st2; grind) (fun m m0 m1 => by omega)
theorem s_runAround {F : Int → Int} {n : Int} (hR : md_Run μ F n) (h : ∀ ν, Aro ν F n → (∀ k i, k ≠ 103 → (k ≠ 74 ∨ i ≠ 44) → ν k i = μ k i) → PV' ν) : CV G l (d + 1) mX12_runAround [xr G 74] μ PV' := by
  obtain ⟨r1, r2, r3⟩ := hR
  apply E_X12_runAround
  have main : ∀ (N : Nat) (v : Int) (ν : xMem), v + N = n → 0 ≤ v → ν 74 44 = n → (∀ k i, k ≠ 103 → (k ≠ 74 ∨ i ≠ 44) → ν k i = μ k i) → (∀ m, 0 ≤ m → m < v → ν 103 m = F m) → K_X12_runAround_10 G l (d + 1) PV' v ν := by
    intro N
    induction N with
    | zero =>
      intro v ν hv v0 hz hf hi
      apply B_X12_runAround_10
      rw [hf 74 43 (by decide) (by decide), r1]
      exact ⟨by omega, by omega, fun _ => h ν ⟨hz, r2, fun m m0 m1 => ⟨hi m m0 (by omega), (r3 m m0 m1).2⟩⟩ hf, fun z => by omega⟩
    | succ N ih =>
      intro v ν hv v0 hz hf hi
      apply B_X12_runAround_10
      rw [hf 74 43 (by decide) (by decide), r1]
      refine ⟨by omega, by omega, fun z => by omega, fun _ => ⟨by omega, ih (v + 1) _ (by omega) (by omega) (by simp [st2]; exact hz) (fun k i a b => by rw [← hf k i a b]; unfold st2; grind) (fun m m0 m1 => ?_)⟩⟩
      have e : (st2 ν 103 v (ν 102 v)) 103 m = if m = v then ν 102 v else ν 103 m := by simp [st2]
      rw [e]
      by_cases c : m = v
      · rw [if_pos c, hf 102 v (by decide) (Or.inl (by decide)), c]; exact (r3 v v0 (by omega)).1
      · rw [if_neg c]; exact hi m m0 (by omega)
  exact main n.toNat 0 _ (by omega) (by omega) (by simp [st2]; exact r1) (fun k i a b => by unfold st2; grind) (fun m m0 m1 => by omega)
theorem s_isAround {F : Int → Int} {n v ah be : Int} (hw : wfW α) (hM : MA α μ) (hA : Aro μ F n) (hv : 0 ≤ v ∧ v < α 74 20) (hah : 0 ≤ ah ∧ ah ≤ 1) (hbe : 0 ≤ be ∧ be ≤ 1) (h : ∀ r, bit r (fit α v ah be F n) → P r μ) : CI G l (d + 1) mX12_isAround [xr G 74, xi v, xi ah, xi be] μ P := by
  obtain ⟨a1, a2, a3⟩ := hA
  have hl := hw.2 v hv.1 hv.2
  have hn := hw.1
  apply E_X12_isAround
  rw [hM.1 77 v (by decide) (by decide), a1]
  refine ⟨by omega, by omega, by omega, fun z => ?_, fun z => h 0 (Or.inr ⟨rfl, fun q => z (by have := q.1; omega)⟩)⟩
  have main : ∀ (N : Nat) (x : Int), x + N = n → 0 ≤ x → (∀ m, 0 ≤ m → m < x → α 76 (10 * v + (ah + m)) = F m) → K_X12_isAround_22 G l (d + 1) P v ah x μ := by
    intro N
    induction N with
    | zero =>
      intro x hx x0 hi
      apply B_X12_isAround_22
      rw [a1]
      exact ⟨by omega, by omega, fun _ => h 1 (Or.inl ⟨rfl, by omega, fun m m0 m1 => hi m m0 (by omega)⟩), fun z => by omega⟩
    | succ N ih =>
      intro x hx x0 hi
      obtain ⟨y1, y2, y3⟩ := a3 x x0 (by omega)
      have hlx := hl.2 (ah + x) (by omega) (by omega)
      have e : μ 76 (10 * v + ah + x) = α 76 (10 * v + (ah + x)) := by rw [hM.1 76 _ (by decide) (by decide), show 10 * v + ah + x = 10 * v + (ah + x) by omega]
      apply B_X12_isAround_22
      rw [a1, e, y1]
      refine ⟨by omega, by omega, fun z => by omega, fun _ => ⟨by omega, by omega, by omega, by omega, fun c => ih (x + 1) (by omega) (by omega) (fun m m0 m1 => ?_), fun c => h 0 (Or.inr ⟨rfl, fun q => c (q.2 x x0 (by omega))⟩)⟩⟩
      rcases (show m < x ∨ m = x by omega) with q | q
      · exact hi m m0 q
      · rw [q]; exact c
  exact main n.toNat 0 (by omega) (by omega) (fun m m0 m1 => by omega)
/-- counting over the words -/
noncomputable def cntW (p : Int → Prop) : Nat → Int
  | 0 => 0
  | n + 1 => cntW p n + ind (p n)
theorem cntW_congr {p q : Int → Prop} : ∀ n : Nat, (∀ v : Int, 0 ≤ v → v < n → (p v ↔ q v)) → cntW p n = cntW q n
  | 0, _ => rfl
  | n + 1, h => by rw [cntW, cntW, cntW_congr n (fun v a b => h v a (by omega)), ind_congr (h n (by omega) (by omega))]
theorem cntW_one {p : Int → Prop} {x : Int} (hx : 0 ≤ x) (hn : ¬ p x) : ∀ n : Nat, cntW (fun v => p v ∨ v = x) n = cntW p n + (if x < n then 1 else 0)
  | 0 => by rw [cntW, cntW, if_neg (by omega)]; rfl
  | n + 1 => by
    rw [cntW, cntW, cntW_one hx hn n]
    by_cases c : x = (n : Int)
    · rw [if_neg (by omega), if_pos (by omega), ind_t (Or.inr c.symm), ind_f (by rw [← c]; exact hn)]
    · rw [ind_congr (show (p n ∨ (n : Int) = x) ↔ p n from ⟨fun z => z.elim id (fun e => absurd e.symm c), Or.inl⟩)]
      by_cases c2 : x < (n : Int)
      · rw [if_pos c2, if_pos (by omega)]; omega
      · rw [if_neg c2, if_neg (by omega)]; omega
theorem cntW_0 {p : Int → Prop} : ∀ n : Nat, (∀ v : Int, 0 ≤ v → v < n → ¬ p v) → cntW p n = 0
  | 0, _ => rfl
  | n + 1, h => by rw [cntW, cntW_0 n (fun v a b => h v a (by omega)), ind_f (h n (by omega) (by omega))]; rfl
theorem cnt_eq (hm : wfM α) {a : Int} {p : Int → Prop} : ∀ K : Nat, (K : Int) ≤ α 74 21 → cntW (fun v => (∃ k : Int, 0 ≤ k ∧ k < (K : Int) ∧ α 81 k ≤ t ∧ α 79 k = a ∧ α 80 k = v) ∧ p v) (α 74 20).toNat = cntN α t a p K
  | 0, _ => by
    rw [cntN]
    exact cntW_0 _ (fun v _ _ ⟨⟨k, k0, k1, _⟩, _⟩ => by omega)
  | K + 1, hK => by
    have ih := cnt_eq hm (a := a) (p := p) K (by omega)
    obtain ⟨x1, x2, x3⟩ := hm.2 (K : Int) (by omega) (by omega)
    rw [cntN, ← ih]
    by_cases c : α 79 K = a ∧ α 81 K ≤ t ∧ p (α 80 K)
    · rw [ind_t c]
      have hn : ¬ ((∃ k : Int, 0 ≤ k ∧ k < (K : Int) ∧ α 81 k ≤ t ∧ α 79 k = a ∧ α 80 k = α 80 K) ∧ p (α 80 K)) := by
        rintro ⟨⟨k, k0, k1, k2, k3, k4⟩, -⟩
        exact x3 k k0 k1 (by rw [k3, c.1]) k4
      have e := cntW_one (p := fun v => (∃ k : Int, 0 ≤ k ∧ k < (K : Int) ∧ α 81 k ≤ t ∧ α 79 k = a ∧ α 80 k = v) ∧ p v) x2.1 hn (α 74 20).toNat
      rw [if_pos (by omega)] at e
      rw [← e]
      refine cntW_congr _ (fun v v0 v1 => ⟨?_, ?_⟩)
      · rintro ⟨⟨k, k0, k1, k2, k3, k4⟩, hp⟩
        rcases (show k < K ∨ k = K by omega) with q | q
        · exact Or.inl ⟨⟨k, k0, q, k2, k3, k4⟩, hp⟩
        · rw [q] at k4; exact Or.inr k4.symm
      · rintro (⟨⟨k, k0, k1, k2⟩, hp⟩ | e2)
        · exact ⟨⟨k, k0, by omega, k2⟩, hp⟩
        · rw [e2]; exact ⟨⟨K, by omega, by omega, c.2.1, c.1, rfl⟩, c.2.2⟩
    · rw [ind_f c, Int.add_zero]
      refine cntW_congr _ (fun v v0 v1 => ⟨?_, ?_⟩)
      · rintro ⟨⟨k, k0, k1, k2, k3, k4⟩, hp⟩
        rcases (show k < K ∨ k = K by omega) with q | q
        · exact ⟨⟨k, k0, q, k2, k3, k4⟩, hp⟩
        · rw [q] at k2 k3 k4; rw [← k4] at hp; exact absurd ⟨k3, k2, hp⟩ c
      · rintro ⟨⟨k, k0, k1, k2⟩, hp⟩
        exact ⟨⟨k, k0, by omega, k2⟩, hp⟩
theorem cntW_le {p : Int → Prop} : ∀ n : Nat, 0 ≤ cntW p n ∧ cntW p n ≤ n
  | 0 => ⟨Int.le_refl _, Int.le_refl _⟩
  | n + 1 => by
    have := cntW_le (p := p) n
    rw [cntW]
    rcases ind_01 (p n) with h | h <;> omega
theorem s_meant {F : Int → Int} {n a ah be : Int} (hw : wfW α) (hm : wfM α) (hR : MR α tl w t μ) (hA : Aro μ F n) (ha : 0 ≤ a ∧ a < α 74 20) (hah : 0 ≤ ah ∧ ah ≤ 1) (hbe : 0 ≤ be ∧ be ≤ 1) (h : P (cntN α t a (fun v => fit α v ah be F n) (α 74 21).toNat) μ) : CI G l (d + 2) mX12_meant [xr G 74, xi a, xi ah, xi be] μ P := by
  have hn := hw.1
  have hk := hm.1
  have eq : cntN α t a (fun v => fit α v ah be F n) (α 74 21).toNat = cntW (fun v => isMn α t a v ∧ fit α v ah be F n) (α 74 20).toNat := by
    rw [← cnt_eq hm (α 74 21).toNat (by omega)]
    refine cntW_congr _ (fun v v0 v1 => ?_)
    rw [show (((α 74 21).toNat : Nat) : Int) = α 74 21 by omega]
    exact Iff.rfl
  rw [eq] at h
  apply E_X12_meant
  have e20 : μ 74 20 = α 74 20 := hR.1.2 20 (by decide) (by decide)
  have main : ∀ (N k : Nat), k + N = (α 74 20).toNat → K_X12_meant_6 G l (d + 2) P a ah be (cntW (fun v => isMn α t a v ∧ fit α v ah be F n) k) (k : Int) μ := by
    intro N
    induction N with
    | zero =>
      intro k hk2
      have := cntW_le (p := fun v => isMn α t a v ∧ fit α v ah be F n) k
      apply B_X12_meant_6
      rw [e20]
      refine ⟨by omega, by omega, fun _ => ⟨by omega, ?_⟩, fun z => by omega⟩
      rw [show k = (α 74 20).toNat by omega]
      exact h
    | succ N ih =>
      intro k hk2
      have e91 := hR.2.1.2 a k ha.1 ha.2 (by omega) (by omega)
      have i01 := ind_01 (isMn α t a k)
      have nx := ih (k + 1) (by omega)
      rw [cntW, show ((k + 1 : Nat) : Int) = (k : Int) + 1 by omega] at nx
      apply B_X12_meant_6
      rw [e20, e91]
      refine ⟨by omega, by omega, fun z => by omega, fun _ => ⟨by omega, by omega, fun z => ?_, fun z => s_isAround hw hR.1 hA (by omega) hah hbe (fun r hr => ⟨fun r0 => ?_, fun r0 => ?_⟩)⟩⟩
      · rw [ind_f (fun q => ind_eq.mp z q.1)] at nx
        exact nx
      · rw [ind_f (fun q => (bit0 hr).mp r0 q.2)] at nx
        exact nx
      · rw [ind_t ⟨ind_ne.mp z, (bitne hr).mp r0⟩] at nx
        exact nx
  exact main (α 74 20).toNat 0 (by omega)
end SpecMTest
