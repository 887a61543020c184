/-! Sheet: signs, meanings of the answer, spread plays -/
section SpecSheet2
variable {G : xG} {l : Launch} {d : Nat} {μ α : xMem} {P : Int → xMem → Prop} {PV' : xMem → Prop} {tl w t : Int}
theorem bit_mask {m pl : Nat} (hm : m < 1024) (hp : pl < 10) : jand (m : Int) (jshl 1 (pl : Int)) = 0 ↔ m.testBit pl = false := by
  have h1 := b_shl1 ⟨pl, by omega⟩
  simp only at h1
  rw [h1, b_and (by omega)]
  constructor
  · intro h
    have h2 : m &&& 2 ^ pl = 0 := by omega
    have h3 : (m &&& 2 ^ pl).testBit pl = false := by rw [h2]; simp
    rw [Nat.testBit_and, Nat.testBit_two_pow_self] at h3
    simpa using h3
  · intro h
    have h2 : m &&& 2 ^ pl = 0 := by
      apply Nat.eq_of_testBit_eq
      intro i
      rw [Nat.testBit_and, Nat.testBit_two_pow]
      by_cases e : pl = i
      · subst e; simp [h]
      · simp [e]
    omega
theorem s_isSign {p pl : Int} (hS : shW α tl t μ) (hp : 0 ≤ p ∧ p < α 87 tl) (hpl : 0 ≤ pl ∧ pl < 10) (h : ∀ r, bit r (isSg α t (cwd α tl p) pl) → P r μ) : CI G l (d + 1) mX9_isSign [xr G 33, xi p, xi pl] μ P := by
  obtain ⟨s1, s2, s3, -⟩ := hS
  obtain ⟨-, -, -, m, hm, e, hb⟩ := s3 p hp.1 hp.2
  obtain ⟨n, rfl⟩ : ∃ n : Nat, pl = (n : Int) := ⟨pl.toNat, by omega⟩
  have hb2 := hb n (by omega)
  have hj := bit_mask hm (show n < 10 by omega)
  apply E_X9_isSign
  rw [e]
  refine ⟨by omega, fun z => h 0 (Or.inr ⟨rfl, fun q => ?_⟩), fun z => h 1 (Or.inl ⟨rfl, ?_⟩)⟩
  · rw [hj.mp z] at hb2
    exact absurd (hb2.mpr q) (by decide)
  · refine hb2.mp ?_
    cases hc : m.testBit n
    · exact absurd (hj.mpr hc) z
    · rfl
theorem s_isMeant {a b kn : Int} (hw : wfW α) (hW : rlW α μ) (hm : wfM α) (hM : rlM α μ) (ha : 0 ≤ a ∧ a < α 74 20) (hb : 0 ≤ b ∧ b < α 74 20) (hk : 0 ≤ kn ∧ kn ≤ α 74 21) (h : ∀ r, bit r (∃ k, 0 ≤ k ∧ k < kn ∧ α 79 k = a ∧ α 80 k = b) → P r μ) : CI G l (d + 2) mX3_isMeant [xr G 3, xi a, xi b, xi kn] μ P := by
  have hn := hw.1
  obtain ⟨m1, m2⟩ := id hm
  obtain ⟨r1, r2, r3⟩ := hM
  have hlb := (hw.2 b hb.1 hb.2).1
  have elb := (hW.2 b hb.1 hb.2).1
  have main : ∀ (N : Nat) (k v : Int), k + 1 ≤ N → -1 ≤ k → k < α 74 21 → 0 ≤ v → v + (k + 1) ≤ 240 → (0 ≤ k → inCh α a (α 77 b) k) → (∀ j, k < j → j < α 74 21 → ¬ (α 79 j = a ∧ α 80 j = b)) → K_X3_isMeant_21 G l (d + 2) P b kn k v μ := by
    intro N
    induction N with
    | zero =>
      intro k v h1 h2 h3 h4 h5 h6 h7
      have hk1 : k = -1 := by omega
      subst hk1
      have hno : ¬ ∃ k, 0 ≤ k ∧ k < kn ∧ α 79 k = a ∧ α 80 k = b := fun ⟨j, j0, j1, j2⟩ => h7 j (by omega) (by omega) j2
      apply B_X3_isMeant_21
      exact ⟨by omega, fun _ => h 0 (Or.inr ⟨rfl, hno⟩), fun _ => ⟨by decide, fun _ => h 0 (Or.inr ⟨rfl, hno⟩), fun z => absurd rfl z⟩⟩
    | succ N ih =>
      intro k v h1 h2 h3 h4 h5 h6 h7
      apply B_X3_isMeant_21
      by_cases hk1 : k = -1
      · subst hk1
        have hno : ¬ ∃ k, 0 ≤ k ∧ k < kn ∧ α 79 k = a ∧ α 80 k = b := fun ⟨j, j0, j1, j2⟩ => h7 j (by omega) (by omega) j2
        exact ⟨by omega, fun _ => h 0 (Or.inr ⟨rfl, hno⟩), fun _ => ⟨by decide, fun _ => h 0 (Or.inr ⟨rfl, hno⟩), fun z => absurd rfl z⟩⟩
      · have k0 : 0 ≤ k := by omega
        obtain ⟨i1, i2⟩ := h6 k0
        obtain ⟨t1, t2⟩ := r3 k k0 h3
        obtain ⟨q1, q2, q3⟩ := m2 k k0 h3
        rw [i1, i2] at t2
        refine ⟨by omega, fun z => by omega, fun _ => ⟨by omega, fun z => absurd z hk1, fun _ => ⟨by omega, by rw [t1]; omega, by omega, fun z => ?_, fun z => ⟨by omega, fun y => h 0 (Or.inr ⟨rfl, ?_⟩), fun y => h 1 (Or.inl ⟨rfl, k, k0, y, i1, by rw [← t1]; exact z⟩)⟩⟩⟩⟩
        · rw [t1] at z
          refine ih (μ 16 k) (v + 1) ?_ ?_ ?_ (by omega) ?_ ?_ (fun j j0 j1 hj => ?_)
          · rcases t2 with y | y <;> omega
          · rcases t2 with y | y <;> omega
          · rcases t2 with y | y <;> omega
          · rcases t2 with y | y <;> omega
          · intro z0
            rcases t2 with y | y
            · omega
            · exact y.2.2.1
          · rcases (show j < k ∨ j = k ∨ k < j by omega) with c | c | c
            · have hj2 : inCh α a (α 77 b) j := ⟨hj.1, by rw [hj.2]⟩
              rcases t2 with y | y
              · exact y.2 j (by omega) c hj2
              · exact y.2.2.2 j j0 c hj2
            · rw [c] at hj; exact z hj.2
            · exact h7 j c j1 hj
        · rintro ⟨j, j0, j1, j2, j3⟩
          rw [t1] at z
          have hne : j ≠ k := by omega
          rcases (show j < k ∨ k < j by omega) with c | c
          · exact q3 j j0 c (by rw [j2, i1]) (by rw [j3, z])
          · exact h7 j c (by omega) ⟨j2, j3⟩
  have hl := r2 a (α 77 b) ha.1 ha.2 hlb.1 hlb.2
  apply E_X3_isMeant
  rw [elb]
  refine ⟨by omega, s_chainOf (by omega) (by omega) ⟨by omega, main 240 _ 0 ?_ ?_ ?_ (by decide) ?_ ?_ (fun j j0 j1 hj => ?_)⟩⟩
  · rcases hl with y | y <;> omega
  · rcases hl with y | y <;> omega
  · rcases hl with y | y <;> omega
  · rcases hl with y | y <;> omega
  · intro z0
    rcases hl with y | y
    · omega
    · exact y.2.2.1
  · have hj2 : inCh α a (α 77 b) j := ⟨hj.1, by rw [hj.2]⟩
    rcases hl with y | y
    · exact y.2 j (by omega) j1 hj2
    · exact y.2.2.2 j j0 j1 hj2
theorem s_meansAnswer {p b : Int} (hw : wfW α) (hW : rlW α μ) (hm : wfM α) (hM : rlM α μ) (hS : shW α tl t μ) (hp : 0 ≤ p ∧ p < α 87 tl) (hb : 0 ≤ b ∧ b < α 74 20) (h : ∀ r, bit r (isMn α t (cwd α tl p) b) → P r μ) : CI G l (d + 3) mX9_meansAnswer [xr G 33, xi p, xi b] μ P := by
  obtain ⟨s1, s2, s3, -, -, s6, s7⟩ := hS
  obtain ⟨w1, w2, w3, -⟩ := s3 p hp.1 hp.2
  apply E_X9_meansAnswer
  rw [w1]
  refine ⟨by omega, s_isMeant hw hW hm hM ⟨w2, w3⟩ hb s6 (fun r hr => ⟨by rcases hr with y | y <;> omega, h r ?_⟩)⟩
  have e : (∃ k, 0 ≤ k ∧ k < μ 33 6 ∧ α 79 k = cwd α tl p ∧ α 80 k = b) ↔ isMn α t (cwd α tl p) b :=
    ⟨fun ⟨k, a, b, c⟩ => ⟨k, a, by omega, (s7 k a (by omega)).mp b, c⟩, fun ⟨k, a, b, c, e⟩ => ⟨k, a, (s7 k a b).mpr c, e⟩⟩
  unfold bit at hr ⊢
  rw [e] at hr
  exact hr
theorem s_mayBePiece {i j : Int} (hS : shW α tl t μ) (hi : 0 ≤ i ∧ i ≤ j ∧ j < α 87 tl) (h : ∀ r, (r = 0 ∨ r = 1) → (r = 0 → i ≠ j ∧ (∀ pl, 0 ≤ pl → pl < 7 → ¬ isSg α t (cwd α tl i) pl ∧ ¬ isSg α t (cwd α tl j) pl) ∧ (2 ≤ j - i → ¬ isSg α t (cwd α tl (j - 1)) 7 ∧ ¬ isSg α t (cwd α tl (i + 1)) 8)) → P r μ) : CI G l (d + 2) mX9_mayBePiece [xr G 33, xi i, xi j] μ P := by
  obtain ⟨s1, s2, s3, -⟩ := id hS
  obtain ⟨-, -, -, m, hm, e, hb⟩ := s3 i (by omega) (by omega)
  obtain ⟨-, -, -, m', hm', e', hb'⟩ := s3 j (by omega) (by omega)
  have hmask : jand (jor (μ 35 i) (μ 35 j)) 127 = 0 → ∀ pl, 0 ≤ pl → pl < 7 → ¬ isSg α t (cwd α tl i) pl ∧ ¬ isSg α t (cwd α tl j) pl := by
    intro z pl p0 p1
    obtain ⟨n, rfl⟩ : ∃ n : Nat, pl = (n : Int) := ⟨pl.toNat, by omega⟩
    rw [e, e', b_or (by omega) (by omega), b_127] at z
    have hz : (m ||| m') % 2 ^ 7 = 0 := by omega
    have ht : ((m ||| m') % 2 ^ 7).testBit n = false := by rw [hz]; simp
    rw [Nat.testBit_mod_two_pow, Nat.testBit_or] at ht
    simp [show n < 7 by omega] at ht
    refine ⟨fun q => ?_, fun q => ?_⟩
    · have := (hb n (by omega)).mpr q; rw [ht.1] at this; cases this
    · have := (hb' n (by omega)).mpr q; rw [ht.2] at this; cases this
  apply E_X9_mayBePiece
  refine ⟨by omega, by omega, fun _ => h 1 (Or.inr rfl) (fun z => by omega), fun hne => ⟨by omega, by omega, fun z => ⟨by omega, fun y => h 0 (Or.inl rfl) (fun _ => ⟨hne, hmask z, fun q => by omega⟩), fun y => ?_⟩, fun z => h 1 (Or.inr rfl) (fun z => by omega)⟩⟩
  refine s_isSign hS (by omega) (by decide) (fun r hr => ⟨fun r1 => h 1 (Or.inr rfl) (fun z => by omega), fun r0 => s_isSign hS (by omega) (by decide) (fun r' hr' => ⟨fun r0' => h 0 (Or.inl rfl) (fun _ => ⟨hne, hmask z, fun _ => ⟨?_, ?_⟩⟩), fun r1' => h 1 (Or.inr rfl) (fun z => by omega)⟩)⟩)
  · rcases hr with c | c
    · omega
    · exact c.2
  · rcases hr' with c | c
    · omega
    · exact c.2
theorem s_isHeads {F : Int → Int} {n f e : Int} (hA : Aim μ F n) (hw : wfW α) (hS : shW α tl t μ) (hf : 0 ≤ f ∧ f ≤ e ∧ e < α 87 tl) (h : ∀ r, bit r (isHds α tl F f e n) → P r μ) : CI G l (d + 1) mX9_isHeads [xr G 33, xi f, xi e] μ P := by
  obtain ⟨s1, s2, s3, s4, s5, -⟩ := id hS
  obtain ⟨a1, a2, a3⟩ := id hA
  have hn := hw.1
  have tx : ∀ m : Int, 0 ≤ m → f + m ≤ e → μ 36 (μ 37 (f + m)) = α 76 (10 * cwd α tl (f + m)) ∧ (0 ≤ μ 37 (f + m) ∧ μ 37 (f + m) < 80) ∧ 97 ≤ α 76 (10 * cwd α tl (f + m)) ∧ α 76 (10 * cwd α tl (f + m)) ≤ 122 := by
    intro m m0 m1
    obtain ⟨q, hq⟩ : ∃ q : Nat, f + m = (q : Int) := ⟨(f + m).toNat, by omega⟩
    have hpw := s3 (f + m) (by omega) (by omega)
    have hl := hw.2 _ hpw.2.1 hpw.2.2.1
    have hs := s4 q (by omega)
    have ht := s5 q 0 (by omega) (by omega) (by rw [← hq]; omega)
    rw [Int.add_zero, Int.add_zero, ← hs, ← hq] at ht
    have h0 := hl.2 0 (by omega) (by omega)
    rw [Int.add_zero] at h0
    refine ⟨ht, ?_, h0⟩
    have hb : ∀ p : Nat, (p : Int) ≤ α 87 tl → 0 ≤ stN α tl p ∧ stN α tl p ≤ 10 * p := by
      intro p
      induction p with
      | zero => intro _; exact ⟨Int.le_refl _, Int.le_refl _⟩
      | succ p ih =>
        intro hp
        have h1 := ih (by omega)
        have h2 := s3 p (by omega) (by omega)
        have h3 := (hw.2 _ h2.2.1 h2.2.2.1).1
        rw [stN]
        omega
    have := hb q (by omega)
    rw [hq, hs]
    omega
  apply E_X9_isHeads
  rw [a1]
  refine ⟨by omega, by omega, fun z => ?_, fun z => h 0 (Or.inr ⟨rfl, fun q => z q.1⟩)⟩
  have main : ∀ (N : Nat) (v : Int), v + N = n → 0 ≤ v → (∀ m, 0 ≤ m → m < v → α 76 (10 * cwd α tl (f + m)) = F m) → K_X9_isHeads_16 G l (d + 1) P f v μ := by
    intro N
    induction N with
    | zero =>
      intro v hv v0 hi
      apply B_X9_isHeads_16
      rw [a1]
      exact ⟨by omega, by omega, fun _ => h 1 (Or.inl ⟨rfl, z, fun m m0 m1 => hi m m0 (by omega)⟩), fun y => by omega⟩
    | succ N ih =>
      intro v hv v0 hi
      obtain ⟨x1, x2, x3⟩ := tx v v0 (by omega)
      obtain ⟨y1, y2⟩ := a3 v v0 (by omega)
      apply B_X9_isHeads_16
      rw [a1, x1, y1]
      refine ⟨by omega, by omega, fun y => by omega, fun y => ⟨by omega, x2, by omega, by omega, by omega, fun e => ih (v + 1) (by omega) (by omega) (fun m m0 m1 => ?_), fun e => h 0 (Or.inr ⟨rfl, fun q => e (q.2 v v0 (by omega))⟩)⟩⟩
      rcases (show m < v ∨ m = v by omega) with c | c
      · exact hi m m0 c
      · rw [c]; exact e
  exact main n.toNat 0 (by omega) (by omega) (fun m m0 m1 => by omega)
theorem sh_bound (hw : wfW α) (hS : shW α tl t μ) : ∀ p : Nat, (p : Int) ≤ α 87 tl → 0 ≤ stN α tl p ∧ stN α tl p ≤ 10 * p := by
  obtain ⟨s1, s2, s3, -⟩ := hS
  intro p
  induction p with
  | zero => intro _; exact ⟨Int.le_refl _, Int.le_refl _⟩
  | succ p ih =>
    intro hp
    have h1 := ih (by omega)
    have h2 := s3 p (by omega) (by omega)
    have h3 := (hw.2 _ h2.2.1 h2.2.2.1).1
    rw [stN]
    omega
theorem s_isTails {F : Int → Int} {n f e : Int} (hA : Aim μ F n) (hw : wfW α) (hS : shW α tl t μ) (hf : 0 ≤ f ∧ f ≤ e ∧ e < α 87 tl) (h : ∀ r, bit r (isTls α tl F f e n) → P r μ) : CI G l (d + 1) mX9_isTails [xr G 33, xi f, xi e] μ P := by
  obtain ⟨s1, s2, s3, s4, s5, -⟩ := id hS
  obtain ⟨a1, a2, a3⟩ := id hA
  have tx : ∀ m : Int, 0 ≤ m → f + m ≤ e → μ 36 (μ 37 (f + m + 1) - 1) = α 76 (10 * cwd α tl (f + m) + (α 77 (cwd α tl (f + m)) - 1)) ∧ (0 ≤ μ 37 (f + m + 1) - 1 ∧ μ 37 (f + m + 1) - 1 < 80) ∧ 97 ≤ α 76 (10 * cwd α tl (f + m) + (α 77 (cwd α tl (f + m)) - 1)) ∧ α 76 (10 * cwd α tl (f + m) + (α 77 (cwd α tl (f + m)) - 1)) ≤ 122 := by
    intro m m0 m1
    obtain ⟨q, hq⟩ : ∃ q : Nat, f + m = (q : Int) := ⟨(f + m).toNat, by omega⟩
    have hpw := s3 (f + m) (by omega) (by omega)
    have hl := hw.2 _ hpw.2.1 hpw.2.2.1
    have hs := s4 (q + 1) (by omega)
    rw [show ((q + 1 : Nat) : Int) = f + m + 1 by omega, stN, ← hq] at hs
    have ht := s5 q (α 77 (cwd α tl (f + m)) - 1) (by omega) (by omega) (by rw [← hq]; omega)
    rw [← hq] at ht
    have h0 := hl.2 (α 77 (cwd α tl (f + m)) - 1) (by omega) (by omega)
    have hb := sh_bound hw hS q (by omega)
    rw [hs]
    refine ⟨?_, by omega, h0⟩
    rw [← ht]
    congr 1
    omega
  apply E_X9_isTails
  rw [a1]
  refine ⟨by omega, by omega, fun z => ?_, fun z => h 0 (Or.inr ⟨rfl, fun q => z q.1⟩)⟩
  have main : ∀ (N : Nat) (v : Int), v + N = n → 0 ≤ v → (∀ m, 0 ≤ m → m < v → α 76 (10 * cwd α tl (f + m) + (α 77 (cwd α tl (f + m)) - 1)) = F m) → K_X9_isTails_16 G l (d + 1) P f v μ := by
    intro N
    induction N with
    | zero =>
      intro v hv v0 hi
      apply B_X9_isTails_16
      rw [a1]
      exact ⟨by omega, by omega, fun _ => h 1 (Or.inl ⟨rfl, z, fun m m0 m1 => hi m m0 (by omega)⟩), fun y => by omega⟩
    | succ N ih =>
      intro v hv v0 hi
      obtain ⟨x1, x2, x3⟩ := tx v v0 (by omega)
      obtain ⟨y1, y2⟩ := a3 v v0 (by omega)
      apply B_X9_isTails_16
      rw [a1, x1, y1]
      refine ⟨by omega, by omega, fun y => by omega, fun y => ⟨by omega, x2, by omega, by omega, by omega, fun e => ih (v + 1) (by omega) (by omega) (fun m m0 m1 => ?_), fun e => h 0 (Or.inr ⟨rfl, fun q => e (q.2 v v0 (by omega))⟩)⟩⟩
      rcases (show m < v ∨ m = v by omega) with c | c
      · exact hi m m0 c
      · rw [c]; exact e
  exact main n.toNat 0 (by omega) (by omega) (fun m m0 m1 => by omega)
end SpecSheet2
