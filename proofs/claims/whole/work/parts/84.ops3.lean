/-! word -/
section Ops3
variable {G : xG} {l : Launch} {d : Nat} {μ ν α : xMem} {P : Int → xMem → Prop} {PV' : xMem → Prop} {N : Int}
/-- the lists have grown, the old is as it was -/
def EXT (μ ν : xMem) : Prop := (μ 74 20 ≤ ν 74 20 ∧ ∀ v, 0 ≤ v → v < μ 74 20 → ν 77 v = μ 77 v ∧ ∀ i, 0 ≤ i → i < μ 77 v → ν 76 (10 * v + i) = μ 76 (10 * v + i)) ∧ (μ 74 21 ≤ ν 74 21 ∧ ∀ k, 0 ≤ k → k < μ 74 21 → ν 79 k = μ 79 k ∧ ν 80 k = μ 80 k ∧ ν 81 k = μ 81 k) ∧
  (μ 74 22 ≤ ν 74 22 ∧ ∀ k, 0 ≤ k → k < μ 74 22 → ν 82 k = μ 82 k ∧ ν 83 k = μ 83 k ∧ ν 84 k = μ 84 k) ∧ (μ 74 23 ≤ ν 74 23 ∧ ∀ k, 0 ≤ k → k < μ 74 23 → ν 85 k = μ 85 k ∧ ν 87 k = μ 87 k ∧ ∀ p, 0 ≤ p → p < μ 87 k → cwd ν k p = cwd μ k p) ∧ ∀ c, 0 ≤ c → c < 16 → 0 < μ 89 c → ν 89 c = μ 89 c
theorem gP.ext {S : List Nat} {T : List (Nat × Int)} (h : gP μ) (hw : wfW μ) (hm : wfM μ) (hC : gC μ) (hE : EXT μ ν) (hf : FrX S T μ ν) (hd : dj [41, 42, 43, 44, 45] [] S T = true) : gP ν := by
  have e41 : ν 41 = μ 41 := hf.a hd (by decide)
  have e42 : ν 42 = μ 42 := hf.a hd (by decide)
  have e43 : ν 43 = μ 43 := hf.a hd (by decide)
  have e44 : ν 44 = μ 44 := hf.a hd (by decide)
  have e45 : ν 45 = μ 45 := hf.a hd (by decide)
  obtain ⟨⟨w1, w2⟩, ⟨m1, m2⟩, ⟨s1, s2⟩, ⟨t1, t2⟩, c1⟩ := hE
  intro c c0 c9
  obtain ⟨h1, h2, h3⟩ := h c c0 c9
  unfold lst
  rw [e41, e42, e43, e44, e45]
  refine ⟨by omega, by omega, ?_⟩
  rcases h3 with ⟨x1, x2⟩ | ⟨x1, x2, x3⟩
  · exact Or.inl ⟨x1, x2⟩
  · refine Or.inr ⟨by omega, by rw [(t2 _ x1.1 x1.2).1]; exact x2, ?_⟩
    obtain ⟨y1, y2, y3, y4⟩ := x3
    refine ⟨by omega, y2, fun i a b => by have := y3 i a b; omega, fun t kp ks w wl wr => ?_⟩
    obtain ⟨-, -, -, -, z5, -, z7, -⟩ := hC.2.2.2.1 _ x1.1 x1.2
    rw [x2] at z5
    have kp' : kP μ t (μ 44 c) := ⟨h1, fun k a b => by rw [← (m2 k a b).2.2]; exact kp.2 k a (by omega)⟩
    have ks' : kS μ t (μ 45 c) := ⟨h2, fun k a b => by rw [← (s2 k a b).2.2]; exact ks.2 k a (by omega)⟩
    rw [c1 c c0 c9 z5]
    have sd : sameD μ ν (μ 43 c) (μ 44 c) (μ 45 c) := ⟨(t2 _ x1.1 x1.2).2.1, (t2 _ x1.1 x1.2).2.2, w2, fun k a b => ⟨(m2 k a (by omega)).1, (m2 k a (by omega)).2.1⟩, fun k a b => ⟨(s2 k a (by omega)).1, (s2 k a (by omega)).2.1⟩⟩
    by_cases cw : w < μ 74 20
    · rw [(w2 w wl cw).1, wh_same hw z7 ⟨wl, cw⟩ (fun k a b => (hm.2 k a (by omega)).2.1) sd kp' kp ks' ks]
      exact y4 t kp' ks' w wl cw
    · constructor
      · rintro ⟨i, i0, i1, i2⟩
        have := y3 i i0 i1
        omega
      · rintro ⟨-, q⟩
        have no : ∀ a, ¬ isMn ν t a w := by
          intro a z
          obtain ⟨k, k0, k1, -, k3⟩ := (isMn_kP kp a w).mp z
          rw [(m2 k k0 (by omega)).2.1] at k3
          have := (hm.2 k k0 (by omega)).2.1
          omega
        have e : wh ν (μ 43 c) w t = T0 := whole_0 (ind_f (no _)) (ind_f (no _))
        rw [e] at q
        exact absurd q (by decide)
/-- these letters are a word's -/
def mat (α : xMem) (F : Int → Int) (n w : Int) : Prop := (0 ≤ w ∧ w < α 74 20) ∧ α 77 w = n ∧ ∀ i, 0 ≤ i → i < n → α 76 (10 * w + i) = F i
theorem s_find {k1 n1 : Nat} (hk1 : LAY[k1]? = some (.inl (0, n1))) (hn1 : n1 < 2147483648) {s n : Int} {F : Int → Int} (hw : wfW α) (hW : rlW α μ) (hn : 1 ≤ n ∧ n ≤ 10) (hs : 0 ≤ s ∧ s + n ≤ n1) (hF : ∀ i, 0 ≤ i → i < n → μ k1 (s + i) = F i ∧ iR (F i)) (h : ∀ r, (r = -1 ∧ ∀ w, ¬ mat α F n w) ∨ mat α F n r → P r μ) : CI G l (d + 2) mX3_find [xr G 3, xr G k1, xi s, xi n] μ P := by
  have hb := hw.1
  apply E_X3_find hk1 hn1
  have main : ∀ (m : Nat) (v : Int), v + m = α 74 20 → 0 ≤ v → (∀ w, w < v → ¬ mat α F n w) → K_X3_find_3 G l (d + 2) P k1 n1 s n v μ := by
    intro m
    induction m with
    | zero =>
      intro v hv v0 hi
      apply B_X3_find_3 hk1 hn1
      rw [hW.1]
      refine ⟨by omega, by omega, fun _ => h (-1) (Or.inl ⟨rfl, fun w z => hi w ?_ z⟩), fun z => by omega⟩
      have := z.1
      omega
    | succ m ih =>
      intro v hv v0 hi
      obtain ⟨l1, l2⟩ := hW.2 v v0 (by omega)
      have lw := (hw.2 v v0 (by omega)).1
      have la := (hw.2 v v0 (by omega)).2
      have nx : ¬ mat α F n v → K_X3_find_3 G l (d + 2) P k1 n1 s n (v + 1) μ := fun hq => ih (v + 1) (by omega) (by omega) (fun w hw' => by
        rcases (show w < v ∨ w = v by omega) with y | y
        · exact hi w y
        · rw [y]; exact hq)
      apply B_X3_find_3 hk1 hn1
      rw [hW.1, l1]
      refine ⟨by omega, by omega, fun z => by omega, fun _ => ⟨by omega, by omega, by omega, fun z => nx (fun q => z q.2.1), fun z => ?_⟩⟩
      refine s_isSpelled hk1 hn1 (by omega) (by omega) hs (fun i i0 i1 => ?_) (fun r hr => ?_)
      · rw [show v * 10 + 0 + i = 10 * v + i by omega, l2 i i0 (by omega), (hF i i0 i1).1]
        have := la i i0 (by omega)
        exact ⟨by omega, (hF i i0 i1).2⟩
      · have eq : (∀ i, 0 ≤ i → i < n → μ 13 (v * 10 + 0 + i) = μ k1 (s + i)) ↔ mat α F n v := by
          constructor
          · intro q
            refine ⟨by omega, z, fun i i0 i1 => ?_⟩
            have := q i i0 i1
            rw [show v * 10 + 0 + i = 10 * v + i by omega, l2 i i0 (by omega), (hF i i0 i1).1] at this
            exact this
          · intro q i i0 i1
            rw [show v * 10 + 0 + i = 10 * v + i by omega, l2 i i0 (by omega), (hF i i0 i1).1]
            exact q.2.2 i i0 i1
        exact ⟨fun y => nx (fun q => (bit0 hr).mp y (eq.mpr q)), fun y => h v (Or.inr (eq.mp ((bitne hr).mp y)))⟩
  exact main (α 74 20).toNat 0 (by omega) (by omega) (fun w hw' z => by have := z.1; omega)
theorem s_small {v : Int} (hv : iR v) (h : ∀ r, bit r (97 ≤ v ∧ v ≤ 122) → P r μ) : CI G l (d + 1) mX11_isSmallLetter [xi v] μ P := by
  apply E_X11_isSmallLetter
  exact ⟨hv, fun z => h 0 (Or.inr ⟨rfl, by omega⟩), fun z => ⟨fun z2 => h 0 (Or.inr ⟨rfl, by omega⟩), fun z2 => h 1 (Or.inl ⟨rfl, by omega⟩)⟩⟩
theorem s_mSmall {v : Int} (hv : iR v) (h : ∀ r, bit r (97 ≤ v ∧ v ≤ 122) → P r μ) : CI G l (d + 1) mX12_isSmall [xi v] μ P := by
  apply E_X12_isSmall
  exact ⟨hv, fun z => h 0 (Or.inr ⟨rfl, by omega⟩), fun z => ⟨fun z2 => h 0 (Or.inr ⟨rfl, by omega⟩), fun z2 => h 1 (Or.inl ⟨rfl, by omega⟩)⟩⟩
theorem s_takeTape (hT : gT μ) (h : P (μ 0 1) (st2 μ 0 1 0)) : CI G l (d + 1) mX11_takeTape [xr G 0] μ P := by
  apply E_X11_takeTape
  exact ⟨by have := hT.1; omega, h⟩
/-- the tape is a new word of n letters -/
def newW (μ : xMem) (n : Int) : Prop := (1 ≤ n ∧ n ≤ 10) ∧ μ 74 20 < 120 ∧ (∀ i, 0 ≤ i → i < n → 97 ≤ μ 1 i ∧ μ 1 i ≤ 122) ∧ ∀ w, ¬ mat μ (μ 1) n w
theorem j8s {x : Int} (h : 0 ≤ x ∧ x ≤ 255) : (97 ≤ j8 x ∧ j8 x ≤ 122) ↔ (97 ≤ x ∧ x ≤ 122) := by unfold j8; omega
theorem s_addWord {n t : Int} (hT : gT μ) (hW : gW μ) (hn : 0 ≤ n ∧ n ≤ 180) (h1 : ¬ newW μ n → P (-1) (st2 μ 0 1 0)) (h2 : newW μ n → P (μ 74 20) (cpy (st2 (st2 (st2 (st2 (st2 μ 0 1 0) 5 (μ 74 20) t) 6 (μ 74 20) 0) 4 2 (μ 74 20 + 1)) 14 (μ 74 20) n) 1 0 13 (μ 74 20 * 10) n)) : CI G l (d + 4) mX3_addWord [xr G 3, xr G 1, xi n, xi t] (st2 μ 0 1 0) P := by
  obtain ⟨hw, hD, hr, hd⟩ := id hW
  have hb := hw.1
  have e4 : st2 μ 0 1 0 4 2 = μ 74 20 := by rw [st_n _ _ _ _ _ _ (by decide)]; exact hr.1
  have hr' : rlW μ (st2 μ 0 1 0) := by
    unfold rlW
    rw [e4, st_f _ _ _ _ _ (by decide), st_f _ _ _ _ _ (by decide)]
    exact ⟨rfl, hr.2⟩
  apply E_X3_addWord (k1 := 1) (n1 := 180) rfl (by decide)
  refine ⟨by omega, fun z => h1 (fun q => by have := q.1; omega), fun z => ⟨fun z2 => h1 (fun q => by have := q.1; omega), fun z2 => s_isFull log4 (by omega) (fun r hr0 => ⟨fun y => ?_, fun y => h1 (fun q => ?_)⟩)⟩⟩
  · have nf := (bit0 hr0).mp y
    rw [e4] at nf
    have main : ∀ (m : Nat) (v : Int), v + m = n → 0 ≤ v → (∀ i, 0 ≤ i → i < v → 97 ≤ μ 1 i ∧ μ 1 i ≤ 122) → K_X3_addWord_26 G l (d + 4) P 1 180 n t v (st2 μ 0 1 0) := by
      intro m
      induction m with
      | zero =>
        intro v hv v0 hi
        apply B_X3_addWord_26 (k1 := 1) (n1 := 180) rfl (by decide)
        refine ⟨by omega, by omega, fun _ => s_find (k1 := 1) (n1 := 180) rfl (by decide) (F := μ 1) hw hr' ⟨z, z2⟩ (by omega) (fun i i0 i1 => ⟨by rw [Int.zero_add, st_n _ _ _ _ _ _ (by decide)], by have := hi i i0 (by omega); omega⟩) (fun r hr1 => ⟨fun e => ?_, fun e => h1 (fun q => ?_)⟩), fun y => by omega⟩
        · have nm : ∀ w, ¬ mat μ (μ 1) n w := by
            rcases hr1 with q | q
            · exact q.2
            · have := q.1; omega
          have nw : newW μ n := ⟨⟨z, z2⟩, by omega, fun i i0 i1 => hi i i0 (by omega), nm⟩
          refine s_add log4 (by omega) (fun q => by rw [e4] at q; omega) (fun q => ?_)
          rw [e4]
          exact ⟨by omega, by omega, by omega, by omega, by omega, h2 nw⟩
        · rcases hr1 with y2 | y2
          · exact e y2.1
          · exact q.2.2.2 r y2
      | succ m ih =>
        intro v hv v0 hi
        have bt := (hT.2.2 v v0 (by omega)).1
        apply B_X3_addWord_26 (k1 := 1) (n1 := 180) rfl (by decide)
        rw [st_n _ _ _ _ _ _ (show (1 : Nat) ≠ 0 by decide)]
        refine ⟨by omega, by omega, fun y => by omega, fun _ => ⟨by omega, s_small (by omega) (fun r hr1 => ⟨fun y => ih (v + 1) (by omega) (by omega) (fun i i0 i1 => ?_), fun y => h1 (fun q => (bit0 hr1).mp y (q.2.2.1 v v0 (by omega)))⟩)⟩⟩
        rcases (show i < v ∨ i = v by omega) with c | c
        · exact hi i i0 c
        · rw [c]; exact (bitne hr1).mp y
    exact main n.toNat 0 (by omega) (by omega) (fun i i0 i1 => by omega)
  · have := (bitne hr0).mp y
    have := q.2.1
    omega
theorem s_taken (h : PV' (st2 (st2 μ 74 3 (μ 74 2)) 74 2 0)) : CV G l (d + 1) mX12_taken [xr G 74] μ PV' := by
  apply E_X12_taken
  exact h
/-- what the model changes when it takes a new word -/
def mdW (μ ν ν' : xMem) (n : Int) : Prop := FrX [76, 77, 78] [(74, 0), (74, 2), (74, 3), (74, 5), (74, 20)] ν ν' ∧ ν' 74 2 = 0 ∧ ν' 74 5 = μ 74 5 + 1 ∧ ν' 74 20 = μ 74 20 + 1 ∧ (∀ i, ν' 77 i = if i = μ 74 20 then n else μ 77 i) ∧ (∀ i, ν' 78 i = if i = μ 74 20 then μ 74 4 else μ 78 i) ∧ ∀ i, ν' 76 i = if 10 * μ 74 20 ≤ i ∧ i < 10 * μ 74 20 + n then μ 1 (i - 10 * μ 74 20) else μ 76 i
theorem s_isTape {v n : Int} (hw : wfW μ) (hv : 0 ≤ v ∧ v < μ 74 20) (hn : 1 ≤ n ∧ n ≤ 10) (e3 : ν 74 3 = n) (e76 : ν 76 = μ 76) (e77 : ν 77 = μ 77) (e75 : ∀ i, 0 ≤ i → i < n → ν 75 i = μ 1 i) (hl : ∀ i, 0 ≤ i → i < n → 97 ≤ μ 1 i ∧ μ 1 i ≤ 122) (h : ∀ r, bit r (mat μ (μ 1) n v) → P r ν) : CI G l (d + 1) mX12_isTape [xr G 74, xi v] ν P := by
  have hb := hw.1
  obtain ⟨lw, la⟩ := hw.2 v hv.1 hv.2
  apply E_X12_isTape
  rw [e77, e3]
  refine ⟨by omega, by omega, by omega, fun z => ?_, fun z => h 0 (Or.inr ⟨rfl, fun q => z q.2.1⟩)⟩
  have main : ∀ (m : Nat) (x : Int), x + m = n → 0 ≤ x → (∀ i, 0 ≤ i → i < x → μ 76 (10 * v + i) = μ 1 i) → K_X12_isTape_17 G l (d + 1) P v x ν := by
    intro m
    induction m with
    | zero =>
      intro x hx x0 hi
      apply B_X12_isTape_17
      rw [e3]
      exact ⟨by omega, by omega, fun _ => h 1 (Or.inl ⟨rfl, hv, z, fun i i0 i1 => hi i i0 (by omega)⟩), fun y => by omega⟩
    | succ m ih =>
      intro x hx x0 hi
      have := la x x0 (by omega)
      have := hl x x0 (by omega)
      apply B_X12_isTape_17
      rw [e3, e76, e75 x x0 (by omega)]
      refine ⟨by omega, by omega, fun y => by omega, fun _ => ⟨by omega, by omega, by omega, by omega, fun y => ih (x + 1) (by omega) (by omega) (fun i i0 i1 => ?_), fun y => h 0 (Or.inr ⟨rfl, fun q => y (q.2.2 x x0 (by omega))⟩)⟩⟩
      rcases (show i < x ∨ i = x by omega) with c | c
      · exact hi i i0 c
      · rw [c]; exact y
  exact main n.toNat 0 (by omega) (by omega) (fun i i0 i1 => by omega)
theorem s_mWord {S : List Nat} {T : List (Nat × Int)} (hT : gT μ) (hW : gW μ) (hK : 0 ≤ μ 74 5 ∧ μ 74 5 ≤ 1000) (hf : FrX S T μ ν) (hd : dj [75, 76, 77, 78] [(74, 2), (74, 4), (74, 5), (74, 20)] S T = true) (h1 : ¬ newW μ (μ 0 1) → P (-1) (st2 (st2 (st2 ν 74 0 0) 74 3 (μ 0 1)) 74 2 0)) (h2 : newW μ (μ 0 1) → ∀ ν', mdW μ ν ν' (μ 0 1) → P (μ 74 20) ν') : CI G l (d + 4) mX12_word [xr G 74] ν P := by
  obtain ⟨hw, hD, hr, hd'⟩ := id hW
  have hb := hw.1
  have tb := hT.1
  have q75 : ν 75 = μ 75 := hf.a hd (by decide)
  have q76 : ν 76 = μ 76 := hf.a hd (by decide)
  have q77 : ν 77 = μ 77 := hf.a hd (by decide)
  have q78 : ν 78 = μ 78 := hf.a hd (by decide)
  have q2 : ν 74 2 = μ 0 1 := by rw [hf.b (i := 2) hd (by decide)]; exact hT.2.1
  have q4 : ν 74 4 = μ 74 4 := hf.b hd (by decide)
  have q5 : ν 74 5 = μ 74 5 := hf.b hd (by decide)
  have q20 : ν 74 20 = μ 74 20 := hf.b hd (by decide)
  apply E_X12_word
  refine s_taken ?_
  have em : st2 (st2 (st2 ν 74 0 0) 74 3 (st2 ν 74 0 0 74 2)) 74 2 0 = st2 (st2 (st2 ν 74 0 0) 74 3 (μ 0 1)) 74 2 0 := by rw [st_o _ _ _ _ _ (show (2 : Int) ≠ 0 by decide), q2]
  rw [em]
  generalize hm0 : st2 (st2 (st2 ν 74 0 0) 74 3 (μ 0 1)) 74 2 0 = m0 at *
  have f0 : FrX [] [(74, 0), (74, 3), (74, 2)] ν m0 := by rw [← hm0]; exact (FrX.st (k := 74) (i := 0)).tr ((FrX.st (k := 74) (i := 3)).tr (FrX.st (k := 74) (i := 2)))
  have r3 : m0 74 3 = μ 0 1 := by rw [← hm0]; simp [st2]
  have r2 : m0 74 2 = 0 := by rw [← hm0]; simp [st2]
  have r20 : m0 74 20 = μ 74 20 := by rw [f0.f 74 20 (by decide)]; exact q20
  have r4 : m0 74 4 = μ 74 4 := by rw [f0.f 74 4 (by decide)]; exact q4
  have r5 : m0 74 5 = μ 74 5 := by rw [f0.f 74 5 (by decide)]; exact q5
  have r75 : m0 75 = μ 75 := by rw [f0.k 75 (by decide)]; exact q75
  have r76 : m0 76 = μ 76 := by rw [f0.k 76 (by decide)]; exact q76
  have r77 : m0 77 = μ 77 := by rw [f0.k 77 (by decide)]; exact q77
  have r78 : m0 78 = μ 78 := by rw [f0.k 78 (by decide)]; exact q78
  rw [r20, r3]
  refine ⟨by omega, fun z => h1 (fun q => by have := q.2.1; omega), fun z => s_isIn (by omega) (by decide) (by decide) (fun r hr0 => ⟨fun y => ?_, fun y => h1 (fun q => (bit0 hr0).mp y q.1)⟩)⟩
  have hn := (bitne hr0).mp y
  generalize hnn : μ 0 1 = n at *
  -- the copy
  have k91 : newW μ n → ∀ (m : Nat) (v : Int) (x : xMem), v + m = n → 0 ≤ v → FrX [76] [] m0 x → (∀ i, x 76 i = if 10 * μ 74 20 ≤ i ∧ i < 10 * μ 74 20 + v then μ 1 (i - 10 * μ 74 20) else μ 76 i) → K_X12_word_91 G l (d + 4) P v x := by
    intro nw m
    induction m with
    | zero =>
      intro v x hv v0 fx hx
      apply B_X12_word_91
      rw [fx.f 74 3 (by decide), fx.f 74 20 (by decide), fx.f 74 4 (by decide), fx.f 74 5 (by decide), r3, r20, r4, r5]
      refine ⟨by omega, by omega, fun _ => ⟨by omega, by omega, ?_⟩, fun q => by omega⟩
      rw [show μ 74 20 + 1 - 1 = μ 74 20 by omega]
      refine h2 nw _ ⟨?_, ?_, ?_, ?_, fun i => ?_, fun i => ?_, fun i => ?_⟩
      · exact (f0.tr (fx.tr ((FrX.sa (k := 77)).tr ((FrX.sa (k := 78)).tr ((FrX.st (k := 74) (i := 20)).tr (FrX.st (k := 74) (i := 5))))))).sub (by decide) (by decide)
      · simp [st2]
        rw [fx.f 74 2 (by decide)]; exact r2
      · simp [st2]
      · simp [st2]
      · simp [st2]
        split
        · rfl
        · rw [fx.k 77 (by decide), r77]
      · simp [st2]
        split
        · rfl
        · rw [fx.k 78 (by decide), r78]
      · simp [st2]
        rw [hx i, show v = n by omega]
    | succ m ih =>
      intro v x hv v0 fx hx
      have bt := hT.2.2 v v0 (by omega)
      have sm := nw.2.2.1 v v0 (by omega)
      have e8 : j8 (μ 75 v) = μ 1 v := by rw [bt.2, j8_id (show -128 ≤ μ 1 v ∧ μ 1 v ≤ 127 by omega), j8_id (by omega)]
      apply B_X12_word_91
      rw [fx.f 74 3 (by decide), fx.f 74 20 (by decide), r3, r20, fx.k 75 (by decide), r75, e8]
      refine ⟨by omega, by omega, fun q => by omega, fun _ => ⟨by omega, by omega, ih (v + 1) _ (by omega) (by omega) ((fx.tr FrX.sa).sub (by decide) (by decide)) (fun i => ?_)⟩⟩
      rw [st_i]
      by_cases c : i = 10 * μ 74 20 + v
      · rw [if_pos c, if_pos (by omega)]; congr 1; omega
      · rw [if_neg c, hx i]
        by_cases c2 : 10 * μ 74 20 ≤ i ∧ i < 10 * μ 74 20 + v
        · rw [if_pos c2, if_pos (by omega)]
        · rw [if_neg c2, if_neg (by omega)]
  -- no word is the tape
  have k65 : (∀ i, 0 ≤ i → i < n → 97 ≤ μ 1 i ∧ μ 1 i ≤ 122) → ∀ (m : Nat) (v : Int), v + m = μ 74 20 → 0 ≤ v → (∀ w, w < v → ¬ mat μ (μ 1) n w) → K_X12_word_65 G l (d + 4) P v m0 := by
    intro hl m
    induction m with
    | zero =>
      intro v hv v0 hi
      apply B_X12_word_65
      rw [r20]
      refine ⟨by omega, by omega, fun _ => k91 ⟨hn, by omega, hl, fun w q => hi w (by have := q.1; omega) q⟩ n.toNat 0 m0 (by omega) (by omega) FrX.rf (fun i => ?_), fun q => by omega⟩
      rw [if_neg (by omega), r76]
    | succ m ih =>
      intro v hv v0 hi
      apply B_X12_word_65
      rw [r20]
      refine ⟨by omega, by omega, fun q => by omega, fun _ => s_isTape (μ := μ) (n := n) hw (by omega) hn r3 r76 r77 (fun i i0 i1 => ?_) hl (fun r1 hr1 => ⟨fun q => ih (v + 1) (by omega) (by omega) (fun w hw' => ?_), fun q => h1 (fun nw => nw.2.2.2 v ((bitne hr1).mp q))⟩)⟩
      · have := hl i i0 i1
        rw [r75, (hT.2.2 i i0 (by omega)).2, j8_id (by omega)]
      · rcases (show w < v ∨ w = v by omega) with c | c
        · exact hi w c
        · rw [c]; exact (bit0 hr1).mp q
  have k35 : ∀ (m : Nat) (v : Int), v + m = n → 0 ≤ v → (∀ i, 0 ≤ i → i < v → 97 ≤ μ 1 i ∧ μ 1 i ≤ 122) → K_X12_word_35 G l (d + 4) P v m0 := by
    intro m
    induction m with
    | zero =>
      intro v hv v0 hi
      apply B_X12_word_35
      rw [r3]
      exact ⟨by omega, by omega, fun _ => k65 (fun i i0 i1 => hi i i0 (by omega)) (μ 74 20).toNat 0 (by omega) (by omega) (fun w hw' q => by have := q.1; omega), fun q => by omega⟩
    | succ m ih =>
      intro v hv v0 hi
      have bt := hT.2.2 v v0 (by omega)
      have js := j8s bt.1
      apply B_X12_word_35
      rw [r3, r75, bt.2]
      refine ⟨by omega, by omega, fun q => by omega, fun _ => ⟨by omega, s_mSmall (by unfold j8; omega) (fun r1 hr1 => ⟨fun q => ih (v + 1) (by omega) (by omega) (fun i i0 i1 => ?_), fun q => h1 (fun nw => (bit0 hr1).mp q (js.mpr (nw.2.2.1 v v0 (by omega))))⟩)⟩⟩
      rcases (show i < v ∨ i = v by omega) with c | c
      · exact hi i i0 c
      · rw [c]; exact js.mp ((bitne hr1).mp q)
  exact k35 n.toNat 0 (by omega) (by omega) (fun i i0 i1 => by omega)
theorem op_word (hI : INV N μ) (hN9 : 0 ≤ N ∧ N ≤ 600) : SIM G l (d + 60) mX11_word mX12_word [] N μ := by
  obtain ⟨hT, hD, hO, hW, hM, hS, hC, hL, hF, hU, hR, hG, hK, hP, hN⟩ := id hI
  have hk5 : 0 ≤ μ 74 5 ∧ μ 74 5 ≤ 1000 := by have := hK.1; omega
  obtain ⟨hw, hWD, hr, hwd⟩ := id hW
  have hb := hw.1
  unfold SIM
  apply E_X11_word
  refine s_takeTape hT ?_
  rw [st_o _ _ _ _ _ (show (2 : Int) ≠ 1 by decide)]
  refine s_addWord hT hW hT.1 (fun nw => ?_) (fun nw => ?_)
  · refine s_mWord (S := []) (T := [(0, 1)]) hT hW hk5 FrX.st (by decide) (fun _ => ⟨rfl, ?_⟩) (fun y => absurd y nw)
    have aX := (FrX.st (μ := μ) (k := 0) (i := 1) (v := 0)).tr ((FrX.st (μ := st2 μ 0 1 0) (k := 74) (i := 0) (v := 0)).tr ((FrX.st (k := 74) (i := 3) (v := μ 0 1)).tr (FrX.st (k := 74) (i := 2) (v := 0))))
    have hA : MA μ _ := MA.of aX (by decide)
    exact ⟨⟨by simp [st2], by simp [st2], fun i i0 i1 => by simpa [st2] using hT.2.2 i i0 i1⟩, hD.kept aX (by decide), hO.kept aX (by decide), hW.kept aX (by decide), hM.kept aX (by decide), hS.kept aX (by decide), hC.kept aX (by decide), hL.kept aX (by decide), hF.kept aX (by decide), hU.kept aX (by decide), hR.kept aX (by decide), hG.kept aX (by decide), (hK.kept hA aX (by decide)).le (by omega), hP.kept hA aX (by decide), (hN.kept aX (by decide)).le (by omega)⟩
  · generalize hnn : μ 0 1 = n at *
    have fX := (FrX.st (μ := μ) (k := 0) (i := 1) (v := 0)).tr ((FrX.sa (μ := st2 μ 0 1 0) (k := 5) (i := μ 74 20) (v := μ 0 2)).tr ((FrX.sa (k := 6) (i := μ 74 20) (v := 0)).tr ((FrX.st (k := 4) (i := 2) (v := μ 74 20 + 1)).tr ((FrX.sa (k := 14) (i := μ 74 20) (v := n)).tr (FrX.cp (ks := 1) (kd := 13) (sp := 0) (dp := μ 74 20 * 10) (n := n))))))
    generalize hm : cpy (st2 (st2 (st2 (st2 (st2 μ 0 1 0) 5 (μ 74 20) (μ 0 2)) 6 (μ 74 20) 0) 4 2 (μ 74 20 + 1)) 14 (μ 74 20) n) 1 0 13 (μ 74 20 * 10) n = m at *
    have x01 : m 0 1 = 0 := by rw [← hm]; simp [cpy, st2]
    have x42 : m 4 2 = μ 74 20 + 1 := by rw [← hm]; simp [cpy, st2]
    have x5 : ∀ i, m 5 i = if i = μ 74 20 then μ 0 2 else μ 5 i := fun i => by rw [← hm]; simp [cpy, st2]
    have x14 : ∀ i, m 14 i = if i = μ 74 20 then n else μ 14 i := fun i => by rw [← hm]; simp [cpy, st2]
    have x13 : ∀ i, m 13 i = if μ 74 20 * 10 ≤ i ∧ i < μ 74 20 * 10 + n then μ 1 (i - μ 74 20 * 10) else μ 13 i := fun i => by rw [← hm]; simp [cpy, st2]
    have hd0 : dj [75, 76, 77, 78] [(74, 2), (74, 4), (74, 5), (74, 20)] ([] ++ ([5] ++ ([6] ++ ([] ++ ([14] ++ [13]))))) ([(0, 1)] ++ ([] ++ ([] ++ ([(4, 2)] ++ ([] ++ []))))) = true := by decide
    rw [← hnn] at nw
    refine s_mWord hT hW hk5 fX hd0 (fun y => absurd nw y) (fun _ ν' hν => ⟨rfl, ?_⟩)
    rw [hnn] at nw hν
    obtain ⟨gf, y2, y5, y20, y77, y78, y76⟩ := hν
    have aX := fX.tr gf
    obtain ⟨n1, n2, n3, n4⟩ := nw
    have z1 : ν' 1 = μ 1 := aX.k 1 (by decide)
    have z75 : ν' 75 = μ 75 := aX.k 75 (by decide)
    have z01 : ν' 0 1 = 0 := by rw [gf.f 0 1 (by decide)]; exact x01
    have z42 : ν' 4 2 = μ 74 20 + 1 := by rw [gf.f 4 2 (by decide)]; exact x42
    have z5 : ∀ i, ν' 5 i = if i = μ 74 20 then μ 0 2 else μ 5 i := fun i => by rw [gf.k 5 (by decide)]; exact x5 i
    have z14 : ∀ i, ν' 14 i = if i = μ 74 20 then n else μ 14 i := fun i => by rw [gf.k 14 (by decide)]; exact x14 i
    have z13 : ∀ i, ν' 13 i = if μ 74 20 * 10 ≤ i ∧ i < μ 74 20 * 10 + n then μ 1 (i - μ 74 20 * 10) else μ 13 i := fun i => by rw [gf.k 13 (by decide)]; exact x13 i
    have z4 : ν' 74 4 = μ 74 4 := aX.f 74 4 (by decide)
    have z21 : ν' 74 21 = μ 74 21 := aX.f 74 21 (by decide)
    have z22 : ν' 74 22 = μ 74 22 := aX.f 74 22 (by decide)
    have z23 : ν' 74 23 = μ 74 23 := aX.f 74 23 (by decide)
    have old77 : ∀ v, v < μ 74 20 → ν' 77 v = μ 77 v := fun v hv => by rw [y77, if_neg (by omega)]
    have new77 : ν' 77 (μ 74 20) = n := by rw [y77, if_pos rfl]
    have old78 : ∀ v, v < μ 74 20 → ν' 78 v = μ 78 v := fun v hv => by rw [y78, if_neg (by omega)]
    have old76 : ∀ v i, v < μ 74 20 → i < μ 77 v → (0 ≤ v) → ν' 76 (10 * v + i) = μ 76 (10 * v + i) := fun v i hv hi v0 => by
      have := (hw.2 v v0 hv).1
      rw [y76, if_neg (by omega)]
    have new76 : ∀ i, 0 ≤ i → i < n → ν' 76 (10 * μ 74 20 + i) = μ 1 i := fun i i0 i1 => by
      rw [y76, if_pos (by omega)]; congr 1; omega
    have hE : EXT μ ν' := by
      refine ⟨⟨by omega, fun v v0 v1 => ⟨old77 v v1, fun i i0 i1 => old76 v i v1 i1 v0⟩⟩, ⟨by omega, fun k _ _ => ?_⟩, ⟨by omega, fun k _ _ => ?_⟩, ⟨by omega, fun k _ _ => ?_⟩, fun c _ _ _ => ?_⟩
      · exact ⟨by rw [aX.k 79 (by decide)], by rw [aX.k 80 (by decide)], by rw [aX.k 81 (by decide)]⟩
      · exact ⟨by rw [aX.k 82 (by decide)], by rw [aX.k 83 (by decide)], by rw [aX.k 84 (by decide)]⟩
      · exact ⟨by rw [aX.k 85 (by decide)], by rw [aX.k 87 (by decide)], fun p _ _ => by unfold cwd; rw [aX.k 88 (by decide)]⟩
      · rw [aX.k 89 (by decide)]
    have hdm := hD.2
    refine ⟨⟨by omega, by omega, fun i i0 i1 => by rw [z1, z75]; exact hT.2.2 i i0 i1⟩, hD.kept aX (by decide), hO.kept aX (by decide), ⟨⟨by omega, fun v v0 v1 => ?_⟩, fun v v' v0 v1 v0' v1' hl hi => ?_, ⟨by omega, fun v v0 v1 => ?_⟩, fun v v0 v1 => ?_⟩, ?_, ?_, ?_, ?_, hF.kept aX (by decide), hU.kept aX (by decide), hR.kept aX (by decide), hG.kept aX (by decide), hK.grown (by omega) (aX.f 74 26 (by decide)) (aX.f 74 27 (by decide)) (aX.f 74 56 (by decide)), hP.ext hw hM.1 hC hE aX (by decide), (hN.kept aX (by decide)).le (by omega)⟩
    · -- the words are well
      rcases (show v < μ 74 20 ∨ v = μ 74 20 by omega) with c | c
      · rw [old77 v c]
        exact ⟨(hw.2 v v0 c).1, fun i i0 i1 => by rw [old76 v i c i1 v0]; exact (hw.2 v v0 c).2 i i0 i1⟩
      · subst c
        rw [new77]
        exact ⟨n1, fun i i0 i1 => by rw [new76 i i0 i1]; exact n3 i i0 i1⟩
    · -- all different
      rcases (show v < μ 74 20 ∨ v = μ 74 20 by omega) with c | c <;> rcases (show v' < μ 74 20 ∨ v' = μ 74 20 by omega) with c' | c'
      · rw [old77 v c, old77 v' c'] at hl
        rw [old77 v c] at hi
        exact hWD v v' v0 c v0' c' hl (fun i i0 i1 => by have := hi i i0 i1; rw [old76 v i c i1 v0, old76 v' i c' (by omega) v0'] at this; exact this)
      · subst c'
        rw [old77 v c, new77] at hl
        rw [old77 v c] at hi
        exact absurd ⟨⟨v0, c⟩, hl, fun i i0 i1 => by have := hi i i0 (by omega); rw [old76 v i c (by omega) v0, new76 i i0 i1] at this; exact this⟩ (n4 v)
      · subst c
        rw [old77 v' c', new77] at hl
        rw [new77] at hi
        exact absurd ⟨⟨v0', c'⟩, hl.symm, fun i i0 i1 => by have := hi i i0 (by omega); rw [old76 v' i c' (by omega) v0', new76 i i0 i1] at this; exact this.symm⟩ (n4 v')
      · omega
    · -- the class has them
      rcases (show v < μ 74 20 ∨ v = μ 74 20 by omega) with c | c
      · obtain ⟨l1, l2⟩ := hr.2 v v0 c
        rw [old77 v c, z14, if_neg (by omega)]
        refine ⟨l1, fun i i0 i1 => ?_⟩
        have := (hw.2 v v0 c).1
        rw [old76 v i c i1 v0, z13, if_neg (by omega)]
        exact l2 i i0 i1
      · subst c
        rw [new77, z14, if_pos rfl]
        refine ⟨rfl, fun i i0 i1 => ?_⟩
        rw [new76 i i0 i1, z13, if_pos (by omega)]
        congr 1
        omega
    · rcases (show v < μ 74 20 ∨ v = μ 74 20 by omega) with c | c
      · rw [old78 v c, z5, if_neg (by omega), z4]
        exact hwd v v0 c
      · subst c
        rw [y78, if_pos rfl, z5, if_pos rfl, z4]
        have := hD.1
        omega
    · -- meanings
      obtain ⟨⟨a1, a2⟩, ⟨b1, b2, b3⟩, c1, c2, c3, c4⟩ := id hM
      have e8 : ν' 8 = μ 8 := aX.k 8 (by decide)
      have e15 : ν' 15 = μ 15 := aX.k 15 (by decide)
      have e16 : ν' 16 = μ 16 := aX.k 16 (by decide)
      have e17 : ν' 17 = μ 17 := aX.k 17 (by decide)
      have e79 : ν' 79 = μ 79 := aX.k 79 (by decide)
      have e80 : ν' 80 = μ 80 := aX.k 80 (by decide)
      have e81 : ν' 81 = μ 81 := aX.k 81 (by decide)
      have f7 : ν' 7 2 = μ 7 2 := aX.f 7 2 (by decide)
      have ch : ∀ a n k e, e ≤ μ 74 21 → lastCh μ a n k e → lastCh ν' a n k e := by
        intro a n k e he hq
        unfold lastCh inCh at *
        rw [e79, e80]
        rcases hq with ⟨q1, q2⟩ | ⟨q1, q2, q3, q4⟩
        · exact Or.inl ⟨q1, fun j j0 j1 => by rw [old77 _ (a2 j j0 (by omega)).2.1.2]; exact q2 j j0 j1⟩
        · exact Or.inr ⟨q1, q2, by rw [old77 _ (a2 k q1 (by omega)).2.1.2]; exact q3, fun j j0 j1 => by rw [old77 _ (a2 j (by omega) (by omega)).2.1.2]; exact q4 j j0 j1⟩
      refine ⟨⟨by omega, fun k k0 k1 => ?_⟩, ⟨by omega, fun a n a0 a1' n0 n1' => ?_, fun k k0 k1 => ?_⟩, by rw [e8]; exact c1, fun k k0 k1 => ?_, fun i j i0 ij j1 => ?_, fun a n a0 a1' n0 n1' => ?_⟩
      · rw [e79, e80, y20]
        obtain ⟨q1, q2, q3⟩ := a2 k k0 (by omega)
        exact ⟨by omega, by omega, q3⟩
      · rw [e15, z21]
        rcases (show a < μ 74 20 ∨ a = μ 74 20 by omega) with c | c
        · exact ch a n _ _ (Int.le_refl _) (b2 a n a0 c n0 n1')
        · refine Or.inl ⟨by rw [c]; exact c4 _ n (Int.le_refl _) (by omega) (by omega) n1', fun j j0 j1 q => ?_⟩
          have := (a2 j j0 j1).1
          have := q.1
          rw [e79] at this
          omega
      · rw [e17, e80, e16, e79, old77 _ (a2 k k0 (by omega)).2.1.2]
        exact ⟨(b3 k k0 (by omega)).1, ch _ _ _ _ (by omega) (b3 k k0 (by omega)).2⟩
      · rw [e8, e81, e80, old78 _ (a2 k k0 (by omega)).2.1.2, z4]
        exact c2 k k0 (by omega)
      · rw [e81]; exact c3 i j i0 ij (by omega)
      · rw [e15]; exact c4 a n (by omega) a1' n0 n1'
    · -- signs
      obtain ⟨⟨a1, a2⟩, b1, b2, b3, b4, b5⟩ := id hS
      have e11 : ν' 11 = μ 11 := aX.k 11 (by decide)
      have e18 : ν' 18 = μ 18 := aX.k 18 (by decide)
      have f10 : ν' 10 2 = μ 10 2 := aX.f 10 2 (by decide)
      unfold gS wfS
      rw [e11, e18, f10, z22, z4, y20, aX.k 82 (by decide), aX.k 83 (by decide), aX.k 84 (by decide)]
      exact ⟨⟨a1, fun k k0 k1 => by obtain ⟨q1, q2⟩ := a2 k k0 k1; exact ⟨by omega, q2⟩⟩, b1, b2, b3, b4, b5⟩
    · -- clues
      obtain ⟨a1, a2, a3, a4, a5, a6⟩ := id hC
      unfold gC clW cwd at *
      rw [aX.k 21 (by decide), aX.k 22 (by decide), aX.k 23 (by decide), aX.k 24 (by decide), aX.k 25 (by decide), aX.k 85 (by decide), aX.k 86 (by decide), aX.k 87 (by decide), aX.k 88 (by decide), aX.k 89 (by decide), aX.f 20 2 (by decide), aX.f 19 4 (by decide), z23, z4, y20]
      exact ⟨a1, a2, a3, fun k k0 k1 => by obtain ⟨q1, q2, q3, q4, q5, q6, ⟨q7, q7'⟩, q8⟩ := a4 k k0 k1; exact ⟨q1, q2, q3, q4, q5, q6, ⟨q7, fun p p0 p1 => by have := q7' p p0 p1; omega⟩, q8⟩, a5, a6⟩
    · -- solutions
      obtain ⟨a1, a2, a3, a4, a5⟩ := id hL
      unfold gL
      rw [aX.k 55 (by decide), aX.k 56 (by decide), aX.k 57 (by decide), aX.k 89 (by decide), aX.k 114 (by decide), aX.k 115 (by decide), aX.k 116 (by decide), aX.f 54 2 (by decide), aX.f 74 67 (by decide), z4, y20]
      exact ⟨a1, a2, a3, fun k k0 k1 => by obtain ⟨q1, q2, q3, q4, q5, q6, q7⟩ := a4 k k0 k1; exact ⟨q1, q2, q3, q4, q5, by omega, by rw [old77 _ q6.2]; exact q7⟩, a5⟩
end Ops3
