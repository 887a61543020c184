/-! Sheet and Lexicon: the plays' tests -/
section SpecSheet
variable {G : xG} {l : Launch} {d : Nat} {μ α : xMem} {P : Int → xMem → Prop} {PV' : xMem → Prop}
/-- the words as the class has them -/
def wfW (α : xMem) : Prop := (0 ≤ α 74 20 ∧ α 74 20 ≤ 120) ∧ ∀ w, 0 ≤ w → w < α 74 20 → (1 ≤ α 77 w ∧ α 77 w ≤ 10) ∧ ∀ i, 0 ≤ i → i < α 77 w → 97 ≤ α 76 (10 * w + i) ∧ α 76 (10 * w + i) ≤ 122
def rlW (α μ : xMem) : Prop := μ 4 2 = α 74 20 ∧ ∀ w, 0 ≤ w → w < α 74 20 → μ 14 w = α 77 w ∧ ∀ i, 0 ≤ i → i < α 77 w → μ 13 (10 * w + i) = α 76 (10 * w + i)
theorem s_isSpelled {k3 n3 : Nat} (hk3 : LAY[k3]? = some (.inl (0, n3))) (hn3 : n3 < 2147483648) {w sk s n : Int} (hn : 0 ≤ n ∧ n ≤ 100) (h1 : 0 ≤ w * 10 + sk ∧ w * 10 + sk + n ≤ 1200) (h2 : 0 ≤ s ∧ s + n ≤ n3) (hr : ∀ i, 0 ≤ i → i < n → iR (μ 13 (w * 10 + sk + i)) ∧ iR (μ k3 (s + i)))
    (h : ∀ r, bit r (∀ i, 0 ≤ i → i < n → μ 13 (w * 10 + sk + i) = μ k3 (s + i)) → P r μ) : CI G l (d + 1) mX3_isSpelled [xr G 3, xi w, xi sk, xr G k3, xi s, xi n] μ P := by
  apply E_X3_isSpelled hk3 hn3
  have main : ∀ (m : Nat) (v : Int), v + m = n → 0 ≤ v → (∀ i, 0 ≤ i → i < v → μ 13 (w * 10 + sk + i) = μ k3 (s + i)) → K_X3_isSpelled_11 G l (d + 1) P k3 n3 s n (w * 10 + sk) v μ := by
    intro m
    induction m with
    | zero =>
      intro v hv v0 hi
      apply B_X3_isSpelled_11 hk3 hn3
      refine ⟨by omega, by omega, fun _ => h 1 (Or.inl ⟨rfl, fun i a b => hi i a (by omega)⟩), fun z => by omega⟩
    | succ m ih =>
      intro v hv v0 hi
      apply B_X3_isSpelled_11 hk3 hn3
      obtain ⟨r1, r2⟩ := hr v v0 (by omega)
      refine ⟨by omega, by omega, fun z => by omega, fun z => ⟨by omega, by omega, r1, r2, fun e => ih (v + 1) (by omega) (by omega) (fun i a b => ?_), fun e => h 0 (Or.inr ⟨rfl, fun q => e (q v v0 (by omega))⟩)⟩⟩
      rcases (show i < v ∨ i = v by omega) with c | c
      · exact hi i a c
      · rw [c]; exact e
  exact main n.toNat 0 (by omega) (by omega) (fun i a b => by omega)
/-- the aim is n letters F -/
def Aim (μ : xMem) (F : Int → Int) (n : Int) : Prop := μ 33 10 = n ∧ (1 ≤ n ∧ n ≤ 10) ∧ ∀ m, 0 ≤ m → m < n → μ 39 m = F m ∧ 97 ≤ F m ∧ F m ≤ 122
theorem s_spAim {F : Int → Int} {n : Int} (hA : Aim μ F n) (hw : wfW α) (hW : rlW α μ) {v ah be : Int} (hv : 0 ≤ v ∧ v < α 74 20) (hl : α 77 v = ah + n + be) (hah : 0 ≤ ah) (hbe : 0 ≤ be) (h : ∀ r, bit r (fit α v ah be F n) → P r μ) : CI G l (d + 1) mX3_isSpelled [xr G 3, xi v, xi ah, xr G 39, xi 0, xi n] μ P := by
  obtain ⟨a1, a2, a3⟩ := hA
  obtain ⟨⟨n0, n1⟩, hw2⟩ := hw
  obtain ⟨⟨l1, l2⟩, lt⟩ := hw2 v hv.1 hv.2
  obtain ⟨e1, e2⟩ := hW.2 v hv.1 hv.2
  have ix : ∀ i, v * 10 + ah + i = 10 * v + (ah + i) := fun i => by omega
  have hx : ∀ i, 0 ≤ i → i < n → μ 13 (v * 10 + ah + i) = α 76 (10 * v + (ah + i)) := fun i i0 i1 => by rw [ix]; exact e2 (ah + i) (by omega) (by omega)
  refine s_isSpelled (k3 := 39) rfl (by decide) (by omega) (by omega) ⟨by omega, by omega⟩ (fun i i0 i1 => ?_) (fun r hr => h r ?_)
  · rw [hx i i0 i1, show (0 : Int) + i = i by omega, (a3 i i0 i1).1]
    have h1 := lt (ah + i) (by omega) (by omega)
    have h2 := a3 i i0 i1
    exact ⟨by omega, by omega⟩
  · have eq : (∀ i, 0 ≤ i → i < n → μ 13 (v * 10 + ah + i) = μ 39 (0 + i)) ↔ fit α v ah be F n := by
      constructor
      · intro q
        refine ⟨hl, fun m m0 m1 => ?_⟩
        have := q m m0 m1
        rw [hx m m0 m1, show (0 : Int) + m = m by omega, (a3 m m0 m1).1] at this
        exact this
      · intro q i i0 i1
        rw [hx i i0 i1, show (0 : Int) + i = i by omega, (a3 i i0 i1).1]
        exact q.2 i i0 i1
    unfold bit at hr ⊢
    rw [eq] at hr
    exact hr
/-- the sheet's words, of telling tl on day t -/
def shW (α : xMem) (tl t : Int) (μ : xMem) : Prop := μ 33 5 = α 87 tl ∧ (2 ≤ α 87 tl ∧ α 87 tl ≤ 8) ∧ (∀ p, 0 ≤ p → p < α 87 tl → μ 34 p = cwd α tl p ∧ 0 ≤ cwd α tl p ∧ cwd α tl p < α 74 20 ∧ ∃ m : Nat, m < 1024 ∧ μ 35 p = (m : Int) ∧ ∀ pl : Nat, pl < 10 → (m.testBit pl = true ↔ isSg α t (cwd α tl p) pl)) ∧
  (∀ p : Nat, (p : Int) ≤ α 87 tl → μ 37 p = stN α tl p) ∧ (∀ (p : Nat) (k : Int), (p : Int) < α 87 tl → 0 ≤ k → k < α 77 (cwd α tl p) → μ 36 (stN α tl p + k) = α 76 (10 * cwd α tl p + k)) ∧
  (0 ≤ μ 33 6 ∧ μ 33 6 ≤ α 74 21) ∧ ∀ k, 0 ≤ k → k < α 74 21 → (k < μ 33 6 ↔ α 81 k ≤ t)
variable {tl w t : Int}
theorem s_isOwn {F : Int → Int} {n p ah be : Int} (hA : Aim μ F n) (hw : wfW α) (hW : rlW α μ) (hS : shW α tl t μ) (hp : 0 ≤ p ∧ p < α 87 tl) (hah : 0 ≤ ah ∧ ah ≤ 1) (hbe : 0 ≤ be ∧ be ≤ 1) (h : ∀ r, bit r (fit α (cwd α tl p) ah be F n) → P r μ) : CI G l (d + 2) mX9_isOwn [xr G 33, xi p, xi ah, xi be] μ P := by
  obtain ⟨s1, s2, s3, -⟩ := hS
  obtain ⟨w1, w2, w3, -⟩ := s3 p hp.1 hp.2
  obtain ⟨a1, a2, a3⟩ := id hA
  obtain ⟨⟨l1, l2⟩, -⟩ := hw.2 _ w2 w3
  have hn := hw.1
  obtain ⟨e1, -⟩ := hW.2 _ w2 w3
  apply E_X9_isOwn
  rw [w1, e1, a1]
  refine ⟨by omega, by omega, by omega, by omega, fun z => h 0 (Or.inr ⟨rfl, fun q => z q.1⟩), fun z => s_spAim hA hw hW ⟨w2, w3⟩ z hah.1 hbe.1 (fun r hr => ⟨fun r0 => h 0 ?_, fun r1 => h 1 ?_⟩)⟩
  · rcases hr with c | c
    · omega
    · exact Or.inr ⟨rfl, c.2⟩
  · rcases hr with c | c
    · exact Or.inl ⟨rfl, c.2⟩
    · omega
/-- the chains of meanings -/
def inCh (α : xMem) (a n k : Int) : Prop := α 79 k = a ∧ α 77 (α 80 k) = n
def lastCh (α : xMem) (a n k e : Int) : Prop := (k = -1 ∧ ∀ j, 0 ≤ j → j < e → ¬ inCh α a n j) ∨ (0 ≤ k ∧ k < e ∧ inCh α a n k ∧ ∀ j, k < j → j < e → ¬ inCh α a n j)
def wfM (α : xMem) : Prop := (0 ≤ α 74 21 ∧ α 74 21 ≤ 240) ∧ ∀ k, 0 ≤ k → k < α 74 21 → (0 ≤ α 79 k ∧ α 79 k < α 74 20) ∧ (0 ≤ α 80 k ∧ α 80 k < α 74 20) ∧ ∀ j, 0 ≤ j → j < k → α 79 j = α 79 k → α 80 j ≠ α 80 k
def rlM (α μ : xMem) : Prop := μ 7 2 = α 74 21 ∧ (∀ a n, 0 ≤ a → a < α 74 20 → 1 ≤ n → n ≤ 10 → lastCh α a n (μ 15 (a * 11 + n)) (α 74 21)) ∧
  ∀ k, 0 ≤ k → k < α 74 21 → μ 17 k = α 80 k ∧ lastCh α (α 79 k) (α 77 (α 80 k)) (μ 16 k) k
theorem cnt_skip {a : Int} {p : Int → Prop} {lo : Nat} : ∀ n : Nat, (∀ j : Int, (lo : Int) ≤ j → j < (lo + n : Nat) → ¬ (α 79 j = a ∧ α 81 j ≤ t ∧ p (α 80 j))) → cntN α t a p (lo + n) = cntN α t a p lo
  | 0, _ => rfl
  | n + 1, h => by
    have e : cntN α t a p (lo + (n + 1)) = cntN α t a p (lo + n) + ind (α 79 ((lo + n : Nat) : Int) = a ∧ α 81 ((lo + n : Nat) : Int) ≤ t ∧ p (α 80 ((lo + n : Nat) : Int))) := rfl
    rw [e, cnt_skip n (fun j a b => h j a (by omega)), ind_f (h ((lo + n : Nat) : Int) (by omega) (by omega))]
    omega
theorem s_chainOf {a n : Int} (ha : 0 ≤ a ∧ a < 120) (hn : 0 ≤ n ∧ n ≤ 10) (h : P (a * 11 + n) μ) : CI G l (d + 1) mX3_chainOf [xr G 3, xi a, xi n] μ P := by
  apply E_X3_chainOf
  exact ⟨by omega, h⟩
theorem s_countMeant {F : Int → Int} {n p ah be : Int} (hA : Aim μ F n) (hw : wfW α) (hW : rlW α μ) (hm : wfM α) (hM : rlM α μ) (hS : shW α tl t μ) (hp : 0 ≤ p ∧ p < α 87 tl) (hah : 0 ≤ ah ∧ ah ≤ 1) (hbe : 0 ≤ be ∧ be ≤ 1) (h : P (cntN α t (cwd α tl p) (fun v => fit α v ah be F n) (α 74 21).toNat) μ) : CI G l (d + 2) mX9_countMeant [xr G 33, xi p, xi ah, xi be] μ P := by
  obtain ⟨s1, s2, s3, -, -, s6, s7⟩ := hS
  obtain ⟨w1, w2, w3, -⟩ := s3 p hp.1 hp.2
  obtain ⟨a1, a2, a3⟩ := id hA
  have hn := hw.1
  obtain ⟨m1, m2⟩ := id hm
  obtain ⟨r1, r2, r3⟩ := hM
  have hle : cntN α t (cwd α tl p) (fun v => fit α v ah be F n) (α 74 21).toNat ≤ 240 := by
    have := cntN_le (α := α) (t := t) (a := cwd α tl p) (p := fun v => fit α v ah be F n) (α 74 21).toNat
    omega
  have main : ∀ (N : Nat) (k c v : Int), k + 1 ≤ N → -1 ≤ k → k < α 74 21 → 0 ≤ c → 0 ≤ v → v + (k + 1) ≤ 240 → (0 ≤ k → inCh α (cwd α tl p) (ah + n + be) k) → c + cntN α t (cwd α tl p) (fun v => fit α v ah be F n) (k + 1).toNat = cntN α t (cwd α tl p) (fun v => fit α v ah be F n) (α 74 21).toNat → K_X9_countMeant_50 G l (d + 2) P ah c k v μ := by
    intro N
    induction N with
    | zero =>
      intro k c v h1 h2 h3 h4 h5 h6 h7 h8
      apply B_X9_countMeant_50
      have hk : k = -1 := by omega
      subst hk
      have e : c = cntN α t (cwd α tl p) (fun v => fit α v ah be F n) (α 74 21).toNat := by
        rw [← h8]; simp [cntN]
      rw [e]
      rw [e] at h4
      exact ⟨by omega, fun _ => ⟨by omega, h⟩, fun _ => ⟨by decide, fun _ => ⟨by omega, h⟩, fun z => absurd rfl z⟩⟩
    | succ N ih =>
      intro k c v h1 h2 h3 h4 h5 h6 h7 h8
      have hc : c ≤ 240 := by
        have := cntN_nn (α := α) (t := t) (a := cwd α tl p) (p := fun v => fit α v ah be F n) (k + 1).toNat
        omega
      apply B_X9_countMeant_50
      by_cases hk : k = -1
      · subst hk
        have e : c = cntN α t (cwd α tl p) (fun v => fit α v ah be F n) (α 74 21).toNat := by
          rw [← h8]; simp [cntN]
        rw [e]
        rw [e] at h4
        exact ⟨by omega, fun _ => ⟨by omega, h⟩, fun _ => ⟨by decide, fun _ => ⟨by omega, h⟩, fun z => absurd rfl z⟩⟩
      · have k0 : 0 ≤ k := by omega
        obtain ⟨i1, i2⟩ := h7 k0
        obtain ⟨t1, t2⟩ := r3 k k0 h3
        obtain ⟨q1, q2, -⟩ := m2 k k0 h3
        rw [i1, i2] at t2
        have hstep : cntN α t (cwd α tl p) (fun v => fit α v ah be F n) (k + 1).toNat = cntN α t (cwd α tl p) (fun v => fit α v ah be F n) (μ 16 k + 1).toNat + ind (α 81 k ≤ t ∧ fit α (α 80 k) ah be F n) := by
          have e1 : (k + 1).toNat = k.toNat + 1 := by omega
          rw [e1, cntN, show ((k.toNat : Nat) : Int) = k by omega]
          have e2 : cntN α t (cwd α tl p) (fun v => fit α v ah be F n) k.toNat = cntN α t (cwd α tl p) (fun v => fit α v ah be F n) (μ 16 k + 1).toNat := by
            have hle2 : -1 ≤ μ 16 k ∧ μ 16 k < k := by rcases t2 with z | z <;> omega
            have e3 : k.toNat = (μ 16 k + 1).toNat + (k - (μ 16 k + 1)).toNat := by omega
            rw [e3]
            refine cnt_skip _ (fun j j0 j1 hj => ?_)
            have hj2 : inCh α (cwd α tl p) (ah + n + be) j := ⟨hj.1, hj.2.2.1⟩
            rcases t2 with z | z
            · exact z.2 j (by omega) (by omega) hj2
            · exact z.2.2.2 j (by omega) (by omega) hj2
          rw [e2, ind_congr (show (α 79 k = cwd α tl p ∧ α 81 k ≤ t ∧ fit α (α 80 k) ah be F n) ↔ (α 81 k ≤ t ∧ fit α (α 80 k) ah be F n) from ⟨fun z => z.2, fun z => ⟨i1, z⟩⟩)]
        have go : ∀ c', 0 ≤ c' → c' = c + ind (α 81 k ≤ t ∧ fit α (α 80 k) ah be F n) → K_X9_countMeant_106 G l (d + 2) P ah c' k v μ := by
          intro c' hc0 hc'
          apply B_X9_countMeant_106
          refine ⟨by omega, ih (μ 16 k) c' (v + 1) ?_ ?_ ?_ hc0 (by omega) ?_ ?_ (by omega)⟩
          · rcases t2 with z | z <;> omega
          · rcases t2 with z | z <;> omega
          · rcases t2 with z | z <;> omega
          · rcases t2 with z | z <;> omega
          · intro z0
            rcases t2 with z | z
            · omega
            · exact z.2.2.1
        have hkd := s7 k k0 h3
        refine ⟨by omega, fun z => by omega, fun _ => ⟨by omega, fun z => absurd z hk, fun _ => ⟨by omega, fun z => go c h4 ?_, fun z => ⟨by omega, ?_⟩⟩⟩⟩
        · rw [ind_f (fun q => by have := hkd.mpr q.1; omega)]
          omega
        · rw [t1, a1]
          refine s_spAim hA hw hW q2 i2 hah.1 hbe.1 (fun r hr => ⟨fun r0 => go c h4 ?_, fun r1 => go (c + 1) (by omega) ?_⟩)
          · rcases hr with y | y
            · omega
            · rw [ind_f (fun q => y.2 q.2)]; omega
          · rcases hr with y | y
            · rw [ind_t ⟨hkd.mp z, y.2⟩]
            · omega
  apply E_X9_countMeant
  rw [a1, w1]
  refine ⟨by omega, fun z => ⟨by omega, s_chainOf (by omega) (by omega) ⟨by omega, ?_⟩⟩, fun z => ?_⟩
  · have hl := r2 (cwd α tl p) (ah + n + be) w2 w3 (by omega) z
    refine main 240 (μ 15 (cwd α tl p * 11 + (ah + n + be))) 0 0 ?_ ?_ ?_ (by decide) (by decide) ?_ ?_ ?_
    · rcases hl with y | y <;> omega
    · rcases hl with y | y <;> omega
    · rcases hl with y | y <;> omega
    · rcases hl with y | y <;> omega
    · intro z0
      rcases hl with y | y
      · omega
      · exact y.2.2.1
    · have hle2 : -1 ≤ μ 15 (cwd α tl p * 11 + (ah + n + be)) ∧ μ 15 (cwd α tl p * 11 + (ah + n + be)) < α 74 21 := by rcases hl with y | y <;> omega
      have e3 : (α 74 21).toNat = (μ 15 (cwd α tl p * 11 + (ah + n + be)) + 1).toNat + (α 74 21 - (μ 15 (cwd α tl p * 11 + (ah + n + be)) + 1)).toNat := by omega
      rw [e3, cnt_skip _ (fun j j0 j1 hj => ?_)]
      · omega
      have hj2 : inCh α (cwd α tl p) (ah + n + be) j := ⟨hj.1, hj.2.2.1⟩
      rcases hl with y | y
      · exact y.2 j (by omega) (by omega) hj2
      · exact y.2.2.2 j (by omega) (by omega) hj2
  · have e0 : cntN α t (cwd α tl p) (fun v => fit α v ah be F n) (α 74 21).toNat = 0 := by
      have e3 : (α 74 21).toNat = 0 + (α 74 21).toNat := by omega
      rw [e3, cnt_skip _ (fun j j0 j1 hj => ?_)]
      · rfl
      have hb := (m2 j (by omega) (by omega)).2.1
      have := (hw.2 _ hb.1 hb.2).1
      have h9 := hj.2.2.1
      omega
    rw [e0] at h
    exact h
end SpecSheet
