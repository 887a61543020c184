/-! means, sign -/
section Ops4
variable {G : xG} {l : Launch} {d : Nat} {μ ν α : xMem} {P : Int → xMem → Prop} {PV' : xMem → Prop} {N : Int}
theorem s_hasWord {v n : Int} (hv : iR v) (hn : iR n) (e : μ 4 2 = n) (h : ∀ r, bit r (0 ≤ v ∧ v < n) → P r μ) : CI G l (d + 1) mX3_hasWord [xr G 3, xi v] μ P := by
  apply E_X3_hasWord
  rw [e]
  exact ⟨hv, fun z => h 0 (Or.inr ⟨rfl, by omega⟩), fun z => ⟨hn, fun z2 => h 0 (Or.inr ⟨rfl, by omega⟩), fun z2 => h 1 (Or.inl ⟨rfl, by omega⟩)⟩⟩
theorem s_isWord {v n : Int} (hv : iR v) (hn : 0 ≤ n ∧ n ≤ 1000) (e : μ 74 20 = n) (h : ∀ r, bit r (0 ≤ v ∧ v < n) → P r μ) : CI G l (d + 2) mX12_isWord [xr G 74, xi v] μ P := by
  apply E_X12_isWord
  rw [e]
  refine s_isIn hv (by decide) (by omega) (fun r hr => ⟨by rcases hr with z | z <;> omega, h r ?_⟩)
  rcases hr with z | z
  · exact Or.inl ⟨z.1, by omega⟩
  · exact Or.inr ⟨z.1, by omega⟩
def newM (μ : xMem) (a b : Int) : Prop := (0 ≤ a ∧ a < μ 74 20) ∧ (0 ≤ b ∧ b < μ 74 20) ∧ a ≠ b ∧ μ 74 21 < 240 ∧ ∀ k, 0 ≤ k → k < μ 74 21 → ¬ (μ 79 k = a ∧ μ 80 k = b)
theorem op_means (hI : INV N μ) (hN9 : 0 ≤ N ∧ N ≤ 600) {a b : Int} (ha : iR a) (hb : iR b) : SIM G l (d + 60) mX11_means mX12_means [xi a, xi b] N μ := by
  obtain ⟨hT, hD, hO, hW, hM, hS, hC, hL, hF, hU, hR, hG, hK, hP, hN⟩ := id hI
  have hk5 := hK.1
  obtain ⟨hw, hWD, hr, hwd⟩ := id hW
  have hbw := hw.1
  obtain ⟨⟨a1, a2⟩, ⟨b1, b2, b3⟩, c1, c2, c3, c4⟩ := id hM
  -- the model
  have mdl : ∀ (ν : xMem) (Q : Int → xMem → Prop), MA μ ν → ν 74 4 = μ 74 4 → ν 74 5 = μ 74 5 → (¬ newM μ a b → Q 0 (st2 ν 74 0 0)) → (newM μ a b → Q 1 (st2 (st2 (st2 (st2 (st2 (st2 ν 74 0 0) 79 (μ 74 21) a) 80 (μ 74 21) b) 81 (μ 74 21) (μ 74 4)) 74 21 (μ 74 21 + 1)) 74 5 (μ 74 5 + 1))) → CI G l (d + 60) mX12_means [xr G 74, xi a, xi b] ν Q := by
    intro ν Q hA q4 q5 h1 h2
    have q20 : st2 ν 74 0 0 74 20 = μ 74 20 := by rw [st_o _ _ _ _ _ (by decide)]; exact hA.2 20 (by decide) (by decide)
    have q21 : st2 ν 74 0 0 74 21 = μ 74 21 := by rw [st_o _ _ _ _ _ (by decide)]; exact hA.2 21 (by decide) (by decide)
    have q79 : st2 ν 74 0 0 79 = μ 79 := by rw [st_f _ _ _ _ _ (by decide)]; exact hA.k 79 (by decide) (by decide)
    have q80 : st2 ν 74 0 0 80 = μ 80 := by rw [st_f _ _ _ _ _ (by decide)]; exact hA.k 80 (by decide) (by decide)
    apply E_X12_means
    refine s_isWord ha (by omega) q20 (fun r1 g1 => ⟨fun z => h1 (fun q => (bit0 g1).mp z q.1), fun z => s_isWord hb (by omega) q20 (fun r2 g2 => ⟨fun z2 => h1 (fun q => (bit0 g2).mp z2 q.2.1), fun z2 => ⟨ha, hb, fun z3 => h1 (fun q => q.2.2.1 z3), fun z3 => ?_⟩⟩)⟩)
    have w1 := (bitne g1).mp z
    have w2 := (bitne g2).mp z2
    rw [q21]
    refine ⟨by omega, fun z4 => ?_, fun z4 => h1 (fun q => by have := q.2.2.2.1; omega)⟩
    have main : ∀ (n : Nat) (v : Int), v + n = μ 74 21 → 0 ≤ v → (∀ k, 0 ≤ k → k < v → ¬ (μ 79 k = a ∧ μ 80 k = b)) → K_X12_means_40 G l (d + 60) Q a b v (st2 ν 74 0 0) := by
      intro n
      induction n with
      | zero =>
        intro v hv v0 hi
        apply B_X12_means_40
        rw [q21]
        refine ⟨by omega, by omega, fun _ => ⟨by omega, ?_⟩, fun z => by omega⟩
        rw [st_o _ _ _ _ _ (show (4 : Int) ≠ 0 by decide), st_o _ _ _ _ _ (show (5 : Int) ≠ 0 by decide), q4, q5]
        exact h2 ⟨w1, w2, z3, by omega, fun k k0 k1 => hi k k0 (by omega)⟩
      | succ n ih =>
        intro v hv v0 hi
        obtain ⟨x1, x2, -⟩ := a2 v v0 (by omega)
        have nx : ¬ (μ 79 v = a ∧ μ 80 v = b) → K_X12_means_40 G l (d + 60) Q a b (v + 1) (st2 ν 74 0 0) := fun hq => ih (v + 1) (by omega) (by omega) (fun k k0 k1 => by
          rcases (show k < v ∨ k = v by omega) with c | c
          · exact hi k k0 c
          · rw [c]; exact hq)
        apply B_X12_means_40
        rw [q21, q79, q80]
        exact ⟨by omega, by omega, fun z => by omega, fun _ => ⟨by omega, by omega, ha, fun z => nx (fun q => z q.1), fun z => ⟨by omega, hb, fun z5 => nx (fun q => z5 q.2), fun z5 => h1 (fun q => q.2.2.2.2 v v0 (by omega) ⟨z, z5⟩)⟩⟩⟩
    exact main (μ 74 21).toNat 0 (by omega) (by omega) (fun k k0 k1 => by omega)
  have fail : ¬ newM μ a b → ((0 : Int) = 0 ∨ (0 : Int) = 1) ∧ CI G l (d + 60) mX12_means [xr G 74, xi a, xi b] μ (fun r' m' => 0 = r' ∧ INV (N + 1) m') := fun hz => ⟨Or.inl rfl, mdl μ _ MA.rf rfl rfl (fun _ => ⟨rfl, hI.thr⟩) (fun y => absurd y hz)⟩
  unfold SIM
  apply E_X11_means
  apply E_X3_addMeaning
  refine s_hasWord ha (n := μ 74 20) (by omega) hr.1 (fun r1 g1 => ⟨fun z => fail (fun q => (bit0 g1).mp z q.1), fun z => s_hasWord hb (n := μ 74 20) (by omega) hr.1 (fun r2 g2 => ⟨fun z2 => fail (fun q => (bit0 g2).mp z2 q.2.1), fun z2 => ⟨ha, hb, fun z3 => fail (fun q => q.2.2.1 z3), fun z3 => s_isFull log7 (by omega) (fun r3 g3 => ⟨fun z4 => ?_, fun z4 => fail (fun q => ?_)⟩)⟩⟩)⟩)
  · have w1 := (bitne g1).mp z
    have w2 := (bitne g2).mp z2
    have w3 := (bit0 g3).mp z4
    rw [b1] at w3
    have lb := (hw.2 b w2.1 w2.2).1
    rw [b1]
    refine s_isMeant hw hr ⟨a1, a2⟩ ⟨b1, b2, b3⟩ w1 w2 (by omega) (fun r4 g4 => ⟨fun z5 => ?_, fun z5 => fail (fun q => ?_)⟩)
    · have nm : newM μ a b := ⟨w1, w2, z3, by omega, fun k k0 k1 q => (bit0 g4).mp z5 ⟨k, k0, k1, q⟩⟩
      refine s_add log7 (by omega) (fun q => by omega) (fun _ => ⟨by omega, ?_⟩)
      rw [b1]
      have e14 : (st2 (st2 (st2 μ 8 (μ 74 21) (μ 0 2)) 9 (μ 74 21) a) 7 2 (μ 74 21 + 1)) 14 b = μ 77 b := by
        simp [st2]
        exact (hr.2 b w2.1 w2.2).1
      rw [e14]
      refine s_chainOf (by omega) (by omega) ⟨by omega, by omega, Or.inr rfl, ?_⟩
      have e15 : (st2 (st2 (st2 μ 8 (μ 74 21) (μ 0 2)) 9 (μ 74 21) a) 7 2 (μ 74 21 + 1)) 15 (a * 11 + μ 77 b) = μ 15 (a * 11 + μ 77 b) := by simp [st2]
      rw [e15]
      have fX := (FrX.sa (μ := μ) (k := 8) (i := μ 74 21) (v := μ 0 2)).tr ((FrX.sa (k := 9) (i := μ 74 21) (v := a)).tr ((FrX.st (k := 7) (i := 2) (v := μ 74 21 + 1)).tr ((FrX.sa (k := 17) (i := μ 74 21) (v := b)).tr ((FrX.sa (k := 16) (i := μ 74 21) (v := μ 15 (a * 11 + μ 77 b))).tr (FrX.sa (k := 15) (i := a * 11 + μ 77 b) (v := μ 74 21))))))
      generalize hm : st2 (st2 (st2 (st2 (st2 (st2 μ 8 (μ 74 21) (μ 0 2)) 9 (μ 74 21) a) 7 2 (μ 74 21 + 1)) 17 (μ 74 21) b) 16 (μ 74 21) (μ 15 (a * 11 + μ 77 b))) 15 (a * 11 + μ 77 b) (μ 74 21) = m at *
      have x7 : m 7 2 = μ 74 21 + 1 := by rw [← hm]; simp [st2]
      have x8 : ∀ i, m 8 i = if i = μ 74 21 then μ 0 2 else μ 8 i := fun i => by rw [← hm]; simp [st2]
      have x15 : ∀ i, m 15 i = if i = a * 11 + μ 77 b then μ 74 21 else μ 15 i := fun i => by rw [← hm]; simp [st2]
      have x16 : ∀ i, m 16 i = if i = μ 74 21 then μ 15 (a * 11 + μ 77 b) else μ 16 i := fun i => by rw [← hm]; simp [st2]
      have x17 : ∀ i, m 17 i = if i = μ 74 21 then b else μ 17 i := fun i => by rw [← hm]; simp [st2]
      refine mdl m _ (MA.of fX (by decide)) (fX.f 74 4 (by decide)) (fX.f 74 5 (by decide)) (fun y => absurd nm y) (fun _ => ⟨rfl, ?_⟩)
      have gX := (FrX.st (μ := m) (k := 74) (i := 0) (v := 0)).tr ((FrX.sa (k := 79) (i := μ 74 21) (v := a)).tr ((FrX.sa (k := 80) (i := μ 74 21) (v := b)).tr ((FrX.sa (k := 81) (i := μ 74 21) (v := μ 74 4)).tr ((FrX.st (k := 74) (i := 21) (v := μ 74 21 + 1)).tr (FrX.st (k := 74) (i := 5) (v := μ 74 5 + 1))))))
      generalize hn : st2 (st2 (st2 (st2 (st2 (st2 m 74 0 0) 79 (μ 74 21) a) 80 (μ 74 21) b) 81 (μ 74 21) (μ 74 4)) 74 21 (μ 74 21 + 1)) 74 5 (μ 74 5 + 1) = n at *
      have aX := fX.tr gX
      have y79 : ∀ i, n 79 i = if i = μ 74 21 then a else μ 79 i := fun i => by rw [← hn]; simp [st2]; rw [fX.k 79 (by decide)]
      have y80 : ∀ i, n 80 i = if i = μ 74 21 then b else μ 80 i := fun i => by rw [← hn]; simp [st2]; rw [fX.k 80 (by decide)]
      have y81 : ∀ i, n 81 i = if i = μ 74 21 then μ 74 4 else μ 81 i := fun i => by rw [← hn]; simp [st2]; rw [fX.k 81 (by decide)]
      have y21 : n 74 21 = μ 74 21 + 1 := by rw [← hn]; simp [st2]
      have y5 : n 74 5 = μ 74 5 + 1 := by rw [← hn]; simp [st2]
      have z7 : n 7 2 = μ 74 21 + 1 := by rw [gX.f 7 2 (by decide)]; exact x7
      have z8 : ∀ i, n 8 i = if i = μ 74 21 then μ 0 2 else μ 8 i := fun i => by rw [gX.k 8 (by decide)]; exact x8 i
      have z15 : ∀ i, n 15 i = if i = a * 11 + μ 77 b then μ 74 21 else μ 15 i := fun i => by rw [gX.k 15 (by decide)]; exact x15 i
      have z16 : ∀ i, n 16 i = if i = μ 74 21 then μ 15 (a * 11 + μ 77 b) else μ 16 i := fun i => by rw [gX.k 16 (by decide)]; exact x16 i
      have z17 : ∀ i, n 17 i = if i = μ 74 21 then b else μ 17 i := fun i => by rw [gX.k 17 (by decide)]; exact x17 i
      have z77 : n 77 = μ 77 := aX.k 77 (by decide)
      have z78 : n 78 = μ 78 := aX.k 78 (by decide)
      have z20 : n 74 20 = μ 74 20 := aX.f 74 20 (by decide)
      have z4' : n 74 4 = μ 74 4 := aX.f 74 4 (by decide)
      have o79 : ∀ i, i < μ 74 21 → n 79 i = μ 79 i := fun i hi => by rw [y79, if_neg (by omega)]
      have o80 : ∀ i, i < μ 74 21 → n 80 i = μ 80 i := fun i hi => by rw [y80, if_neg (by omega)]
      have o81 : ∀ i, i < μ 74 21 → n 81 i = μ 81 i := fun i hi => by rw [y81, if_neg (by omega)]
      have hE : EXT μ n := by
        refine ⟨⟨by omega, fun v v0 v1 => ⟨by rw [z77], fun i _ _ => by rw [aX.k 76 (by decide)]⟩⟩, ⟨by omega, fun k _ k1 => ⟨o79 k k1, o80 k k1, o81 k k1⟩⟩, ⟨by rw [aX.f 74 22 (by decide)]; exact Int.le_refl _, fun k _ _ => ?_⟩, ⟨by rw [aX.f 74 23 (by decide)]; exact Int.le_refl _, fun k _ _ => ?_⟩, fun c _ _ _ => ?_⟩
        · exact ⟨by rw [aX.k 82 (by decide)], by rw [aX.k 83 (by decide)], by rw [aX.k 84 (by decide)]⟩
        · exact ⟨by rw [aX.k 85 (by decide)], by rw [aX.k 87 (by decide)], fun p _ _ => by unfold cwd; rw [aX.k 88 (by decide)]⟩
        · rw [aX.k 89 (by decide)]
      have td := hD.1
      have td' := hD.2
      refine ⟨hT.kept aX (by decide), hD.kept aX (by decide), hO.kept aX (by decide), hW.kept aX (by decide), ⟨⟨by omega, fun k k0 k1 => ?_⟩, ⟨by omega, fun a' n' a0' a1' n0' n1' => ?_, fun k k0 k1 => ?_⟩, fun k k0 k1 => ?_, fun k k0 k1 => ?_, fun i j i0 ij j1 => ?_, fun a' n' a0' a1' n0' n1' => ?_⟩, hS.kept aX (by decide), hC.kept aX (by decide), hL.kept aX (by decide), hF.kept aX (by decide), hU.kept aX (by decide), hR.kept aX (by decide), hG.kept aX (by decide), hK.grown y5 (aX.f 74 26 (by decide)) (aX.f 74 27 (by decide)) (aX.f 74 56 (by decide)), hP.ext hw ⟨a1, a2⟩ hC hE aX (by decide), (hN.kept aX (by decide)).le (by omega)⟩
      · rcases (show k < μ 74 21 ∨ k = μ 74 21 by omega) with c | c
        · rw [o79 k c, o80 k c, z20]
          obtain ⟨p1, p2, p3⟩ := a2 k k0 c
          exact ⟨p1, p2, fun j j0 j1 => by rw [o79 j (by omega), o80 j (by omega)]; exact p3 j j0 j1⟩
        · subst c
          rw [y79 (μ 74 21), y80 (μ 74 21), if_pos rfl, if_pos rfl, z20]
          exact ⟨w1, w2, fun j j0 j1 => by rw [o79 j j1, o80 j j1]; exact fun q1 q2 => nm.2.2.2.2 j j0 j1 ⟨q1, q2⟩⟩
      · -- the newest of a chain
        rw [z20] at a1'
        have hl := b2 a' n' a0' a1' n0' n1'
        rw [y21]
        by_cases c : a' = a ∧ n' = μ 77 b
        · obtain ⟨rfl, rfl⟩ := c
          rw [z15, if_pos rfl]
          refine Or.inr ⟨a1.1, by omega, ⟨by rw [y79, if_pos rfl], by rw [y80, if_pos rfl, z77]⟩, fun j j0 j1 => by omega⟩
        · rw [z15, if_neg (by omega)]
          rcases hl with ⟨q1, q2⟩ | ⟨q1, q2, q3, q4⟩
          · refine Or.inl ⟨q1, fun j j0 j1 q => ?_⟩
            rcases (show j < μ 74 21 ∨ j = μ 74 21 by omega) with e | e
            · unfold inCh at q
              rw [o79 j e, o80 j e, z77] at q
              exact q2 j j0 e q
            · subst e
              unfold inCh at q
              rw [y79, if_pos rfl, y80, if_pos rfl, z77] at q
              exact c ⟨q.1.symm, q.2.symm⟩
          · refine Or.inr ⟨q1, by omega, ?_, fun j j0 j1 q => ?_⟩
            · unfold inCh at q3 ⊢
              rw [o79 _ q2, o80 _ q2, z77]
              exact q3
            · rcases (show j < μ 74 21 ∨ j = μ 74 21 by omega) with e | e
              · unfold inCh at q
                rw [o79 j e, o80 j e, z77] at q
                exact q4 j j0 e q
              · subst e
                unfold inCh at q
                rw [y79, if_pos rfl, y80, if_pos rfl, z77] at q
                exact c ⟨q.1.symm, q.2.symm⟩
      · -- the older ones
        have ch : ∀ x y z e, e ≤ μ 74 21 → lastCh μ x y z e → lastCh n x y z e := by
          intro x y z e he hq
          rcases hq with ⟨q1, q2⟩ | ⟨q1, q2, q3, q4⟩
          · exact Or.inl ⟨q1, fun j j0 j1 q => q2 j j0 j1 (by unfold inCh at q ⊢; rw [o79 j (by omega), o80 j (by omega), z77] at q; exact q)⟩
          · exact Or.inr ⟨q1, q2, by unfold inCh at q3 ⊢; rw [o79 z (by omega), o80 z (by omega), z77]; exact q3, fun j j0 j1 q => q4 j j0 j1 (by unfold inCh at q ⊢; rw [o79 j (by omega), o80 j (by omega), z77] at q; exact q)⟩
        rcases (show k < μ 74 21 ∨ k = μ 74 21 by omega) with c | c
        · rw [z17, if_neg (by omega), o80 k c, z16, if_neg (by omega), o79 k c, z77]
          exact ⟨(b3 k k0 c).1, ch _ _ _ _ (by omega) (b3 k k0 c).2⟩
        · subst c
          rw [z17, if_pos rfl, y80 (μ 74 21), if_pos rfl, z16, if_pos rfl, y79 (μ 74 21), if_pos rfl, z77]
          exact ⟨rfl, ch _ _ _ _ (Int.le_refl _) (b2 a (μ 77 b) w1.1 w1.2 (by omega) (by omega))⟩
      · rw [z8]
        split
        · omega
        · exact c1 k k0 k1
      · rcases (show k < μ 74 21 ∨ k = μ 74 21 by omega) with c | c
        · rw [z8, if_neg (by omega), o81 k c, o80 k c, z78, z4']
          exact c2 k k0 c
        · subst c
          have := hwd b w2.1 w2.2
          rw [z8, if_pos rfl, y81 (μ 74 21), if_pos rfl, y80 (μ 74 21), if_pos rfl, z78, z4']
          omega
      · rcases (show j < μ 74 21 ∨ j = μ 74 21 by omega) with c | c
        · rw [o81 i (by omega), o81 j c]
          exact c3 i j i0 ij c
        · subst c
          rcases (show i < μ 74 21 ∨ i = μ 74 21 by omega) with e | e
          · rw [o81 i e, y81 (μ 74 21), if_pos rfl]
            have := c2 i i0 e
            omega
          · rw [e]; exact Int.le_refl _
      · rw [z15, if_neg (by omega)]
        rw [z20] at a0'
        exact c4 a' n' a0' a1' n0' n1'
    · obtain ⟨k, k0, k1, k2⟩ := (bitne g4).mp z5
      exact q.2.2.2.2 k k0 k1 k2
  · have := (bitne g3).mp z4
    have := q.2.2.2.1
    omega
def newS (μ : xMem) (v pl : Int) : Prop := (0 ≤ v ∧ v < μ 74 20) ∧ (0 ≤ pl ∧ pl < 10) ∧ μ 74 22 < 120 ∧ ∀ k, 0 ≤ k → k < μ 74 22 → ¬ (μ 82 k = v ∧ μ 83 k = pl)
theorem op_sign (hI : INV N μ) (hN9 : 0 ≤ N ∧ N ≤ 600) {a b : Int} (ha : iR a) (hb : iR b) : SIM G l (d + 60) mX11_sign mX12_sign [xi a, xi b] N μ := by
  obtain ⟨hT, hD, hO, hW, hM, hS, hC, hL, hF, hU, hR, hG, hK, hP, hN⟩ := id hI
  have hk5 := hK.1
  obtain ⟨hw, hWD, hr, hwd⟩ := id hW
  have hbw := hw.1
  obtain ⟨⟨a1, a2⟩, b1, c1, c2, c3, c4⟩ := id hS
  have mdl : ∀ (ν : xMem) (Q : Int → xMem → Prop), MA μ ν → ν 74 4 = μ 74 4 → ν 74 5 = μ 74 5 → (¬ newS μ a b → Q 0 (st2 ν 74 0 0)) → (newS μ a b → Q 1 (st2 (st2 (st2 (st2 (st2 (st2 ν 74 0 0) 82 (μ 74 22) a) 83 (μ 74 22) b) 84 (μ 74 22) (μ 74 4)) 74 22 (μ 74 22 + 1)) 74 5 (μ 74 5 + 1))) → CI G l (d + 60) mX12_sign [xr G 74, xi a, xi b] ν Q := by
    intro ν Q hA q4 q5 h1 h2
    have q20 : st2 ν 74 0 0 74 20 = μ 74 20 := by rw [st_o _ _ _ _ _ (by decide)]; exact hA.2 20 (by decide) (by decide)
    have q22 : st2 ν 74 0 0 74 22 = μ 74 22 := by rw [st_o _ _ _ _ _ (by decide)]; exact hA.2 22 (by decide) (by decide)
    have q82 : st2 ν 74 0 0 82 = μ 82 := by rw [st_f _ _ _ _ _ (by decide)]; exact hA.k 82 (by decide) (by decide)
    have q83 : st2 ν 74 0 0 83 = μ 83 := by rw [st_f _ _ _ _ _ (by decide)]; exact hA.k 83 (by decide) (by decide)
    apply E_X12_sign
    refine s_isWord ha (by omega) q20 (fun r1 g1 => ⟨fun z => h1 (fun q => (bit0 g1).mp z q.1), fun z => s_isIn hb (by decide) (by decide) (fun r2 g2 => ⟨fun z2 => h1 (fun q => (bit0 g2).mp z2 (by have := q.2.1; omega)), fun z2 => ?_⟩)⟩)
    have w1 := (bitne g1).mp z
    have w2 := (bitne g2).mp z2
    rw [q22]
    refine ⟨by omega, fun z4 => ?_, fun z4 => h1 (fun q => by have := q.2.2.1; omega)⟩
    have main : ∀ (n : Nat) (v : Int), v + n = μ 74 22 → 0 ≤ v → (∀ k, 0 ≤ k → k < v → ¬ (μ 82 k = a ∧ μ 83 k = b)) → K_X12_sign_36 G l (d + 60) Q a b v (st2 ν 74 0 0) := by
      intro n
      induction n with
      | zero =>
        intro v hv v0 hi
        apply B_X12_sign_36
        rw [q22]
        refine ⟨by omega, by omega, fun _ => ⟨by omega, ?_⟩, fun z => by omega⟩
        rw [st_o _ _ _ _ _ (show (4 : Int) ≠ 0 by decide), st_o _ _ _ _ _ (show (5 : Int) ≠ 0 by decide), q4, q5]
        exact h2 ⟨w1, by omega, by omega, fun k k0 k1 => hi k k0 (by omega)⟩
      | succ n ih =>
        intro v hv v0 hi
        obtain ⟨x1, x2, -⟩ := a2 v v0 (by omega)
        have nx : ¬ (μ 82 v = a ∧ μ 83 v = b) → K_X12_sign_36 G l (d + 60) Q a b (v + 1) (st2 ν 74 0 0) := fun hq => ih (v + 1) (by omega) (by omega) (fun k k0 k1 => by
          rcases (show k < v ∨ k = v by omega) with c | c
          · exact hi k k0 c
          · rw [c]; exact hq)
        apply B_X12_sign_36
        rw [q22, q82, q83]
        exact ⟨by omega, by omega, fun z => by omega, fun _ => ⟨by omega, by omega, ha, fun z => nx (fun q => z q.1), fun z => ⟨by omega, hb, fun z5 => nx (fun q => z5 q.2), fun z5 => h1 (fun q => q.2.2.2 v v0 (by omega) ⟨z, z5⟩)⟩⟩⟩
    exact main (μ 74 22).toNat 0 (by omega) (by omega) (fun k k0 k1 => by omega)
  have fail : ¬ newS μ a b → ((0 : Int) = 0 ∨ (0 : Int) = 1) ∧ CI G l (d + 60) mX12_sign [xr G 74, xi a, xi b] μ (fun r' m' => 0 = r' ∧ INV (N + 1) m') := fun hz => ⟨Or.inl rfl, mdl μ _ MA.rf rfl rfl (fun _ => ⟨rfl, hI.thr⟩) (fun y => absurd y hz)⟩
  unfold SIM
  apply E_X11_sign
  apply E_X3_addSign
  refine s_hasWord ha (n := μ 74 20) (by omega) hr.1 (fun r1 g1 => ⟨fun z => fail (fun q => (bit0 g1).mp z q.1), fun z => ⟨hb, fun z2 => fail (fun q => by have := q.2.1; omega), fun z2 => ⟨fun z3 => fail (fun q => by have := q.2.1; omega), fun z3 => s_isFull log10 (by omega) (fun r3 g3 => ⟨fun z4 => ?_, fun z4 => fail (fun q => ?_)⟩)⟩⟩⟩)
  · have w1 := (bitne g1).mp z
    have w3 := (bit0 g3).mp z4
    rw [b1] at w3
    have sp := c4 a b w1.1 (by omega) z2 z3
    refine ⟨by omega, by rcases sp with q | q <;> omega, fun z5 => ?_, fun z5 => fail (fun q => ?_)⟩
    · have nm : newS μ a b := ⟨w1, by omega, by omega, fun k k0 k1 q => by
        rcases sp with y | y
        · exact y.2 k k0 k1 q
        · omega⟩
      refine s_add log10 (by omega) (fun q => by omega) (fun _ => ⟨Or.inr rfl, ?_⟩)
      rw [b1]
      have fX := (FrX.sa (μ := μ) (k := 11) (i := μ 74 22) (v := μ 0 2)).tr ((FrX.sa (k := 12) (i := μ 74 22) (v := a)).tr ((FrX.st (k := 10) (i := 2) (v := μ 74 22 + 1)).tr (FrX.sa (k := 18) (i := a * 10 + b) (v := μ 74 22))))
      generalize hm : st2 (st2 (st2 (st2 μ 11 (μ 74 22) (μ 0 2)) 12 (μ 74 22) a) 10 2 (μ 74 22 + 1)) 18 (a * 10 + b) (μ 74 22) = m at *
      have x10 : m 10 2 = μ 74 22 + 1 := by rw [← hm]; simp [st2]
      have x11 : ∀ i, m 11 i = if i = μ 74 22 then μ 0 2 else μ 11 i := fun i => by rw [← hm]; simp [st2]
      have x18 : ∀ i, m 18 i = if i = a * 10 + b then μ 74 22 else μ 18 i := fun i => by rw [← hm]; simp [st2]
      refine mdl m _ (MA.of fX (by decide)) (fX.f 74 4 (by decide)) (fX.f 74 5 (by decide)) (fun y => absurd nm y) (fun _ => ⟨rfl, ?_⟩)
      have gX := (FrX.st (μ := m) (k := 74) (i := 0) (v := 0)).tr ((FrX.sa (k := 82) (i := μ 74 22) (v := a)).tr ((FrX.sa (k := 83) (i := μ 74 22) (v := b)).tr ((FrX.sa (k := 84) (i := μ 74 22) (v := μ 74 4)).tr ((FrX.st (k := 74) (i := 22) (v := μ 74 22 + 1)).tr (FrX.st (k := 74) (i := 5) (v := μ 74 5 + 1))))))
      generalize hn : st2 (st2 (st2 (st2 (st2 (st2 m 74 0 0) 82 (μ 74 22) a) 83 (μ 74 22) b) 84 (μ 74 22) (μ 74 4)) 74 22 (μ 74 22 + 1)) 74 5 (μ 74 5 + 1) = n at *
      have aX := fX.tr gX
      have y82 : ∀ i, n 82 i = if i = μ 74 22 then a else μ 82 i := fun i => by rw [← hn]; simp [st2]; rw [fX.k 82 (by decide)]
      have y83 : ∀ i, n 83 i = if i = μ 74 22 then b else μ 83 i := fun i => by rw [← hn]; simp [st2]; rw [fX.k 83 (by decide)]
      have y84 : ∀ i, n 84 i = if i = μ 74 22 then μ 74 4 else μ 84 i := fun i => by rw [← hn]; simp [st2]; rw [fX.k 84 (by decide)]
      have y22 : n 74 22 = μ 74 22 + 1 := by rw [← hn]; simp [st2]
      have y5 : n 74 5 = μ 74 5 + 1 := by rw [← hn]; simp [st2]
      have z10 : n 10 2 = μ 74 22 + 1 := by rw [gX.f 10 2 (by decide)]; exact x10
      have z11 : ∀ i, n 11 i = if i = μ 74 22 then μ 0 2 else μ 11 i := fun i => by rw [gX.k 11 (by decide)]; exact x11 i
      have z18 : ∀ i, n 18 i = if i = a * 10 + b then μ 74 22 else μ 18 i := fun i => by rw [gX.k 18 (by decide)]; exact x18 i
      have z20 : n 74 20 = μ 74 20 := aX.f 74 20 (by decide)
      have z4' : n 74 4 = μ 74 4 := aX.f 74 4 (by decide)
      have o82 : ∀ i, i < μ 74 22 → n 82 i = μ 82 i := fun i hi => by rw [y82, if_neg (by omega)]
      have o83 : ∀ i, i < μ 74 22 → n 83 i = μ 83 i := fun i hi => by rw [y83, if_neg (by omega)]
      have o84 : ∀ i, i < μ 74 22 → n 84 i = μ 84 i := fun i hi => by rw [y84, if_neg (by omega)]
      have hE : EXT μ n := by
        refine ⟨⟨by omega, fun v v0 v1 => ⟨by rw [aX.k 77 (by decide)], fun i _ _ => by rw [aX.k 76 (by decide)]⟩⟩, ⟨by rw [aX.f 74 21 (by decide)]; exact Int.le_refl _, fun k _ _ => ?_⟩, ⟨by omega, fun k _ k1 => ⟨o82 k k1, o83 k k1, o84 k k1⟩⟩, ⟨by rw [aX.f 74 23 (by decide)]; exact Int.le_refl _, fun k _ _ => ?_⟩, fun c _ _ _ => ?_⟩
        · exact ⟨by rw [aX.k 79 (by decide)], by rw [aX.k 80 (by decide)], by rw [aX.k 81 (by decide)]⟩
        · exact ⟨by rw [aX.k 85 (by decide)], by rw [aX.k 87 (by decide)], fun p _ _ => by unfold cwd; rw [aX.k 88 (by decide)]⟩
        · rw [aX.k 89 (by decide)]
      have td := hD.1
      have td' := hD.2
      refine ⟨hT.kept aX (by decide), hD.kept aX (by decide), hO.kept aX (by decide), hW.kept aX (by decide), hM.kept aX (by decide), ⟨⟨by omega, fun k k0 k1 => ?_⟩, by omega, fun k k0 k1 => ?_, fun k k0 k1 => ?_, fun i j i0 ij j1 => ?_, fun v pl v0 v1 p0 p1 => ?_⟩, hC.kept aX (by decide), hL.kept aX (by decide), hF.kept aX (by decide), hU.kept aX (by decide), hR.kept aX (by decide), hG.kept aX (by decide), hK.grown y5 (aX.f 74 26 (by decide)) (aX.f 74 27 (by decide)) (aX.f 74 56 (by decide)), hP.ext hw hM.1 hC hE aX (by decide), (hN.kept aX (by decide)).le (by omega)⟩
      · rcases (show k < μ 74 22 ∨ k = μ 74 22 by omega) with c | c
        · rw [o82 k c, o83 k c, o84 k c, z20]
          obtain ⟨p1, p2, p3, p4⟩ := a2 k k0 c
          exact ⟨p1, p2, p3, fun j j0 j1 => by rw [o82 j (by omega), o83 j (by omega)]; exact p4 j j0 j1⟩
        · subst c
          rw [y82 (μ 74 22), y83 (μ 74 22), y84 (μ 74 22), if_pos rfl, if_pos rfl, if_pos rfl, z20]
          exact ⟨w1, by omega, by omega, fun j j0 j1 => by rw [o82 j j1, o83 j j1]; exact fun q1 q2 => nm.2.2.2 j j0 j1 ⟨q1, q2⟩⟩
      · rw [z11]
        split
        · omega
        · exact c1 k k0 k1
      · rcases (show k < μ 74 22 ∨ k = μ 74 22 by omega) with c | c
        · rw [z11, if_neg (by omega), o84 k c, z4']
          exact c2 k k0 c
        · subst c
          rw [z11, if_pos rfl, y84 (μ 74 22), if_pos rfl, z4']
          omega
      · rcases (show j < μ 74 22 ∨ j = μ 74 22 by omega) with c | c
        · rw [o84 i (by omega), o84 j c]
          exact c3 i j i0 ij c
        · subst c
          rcases (show i < μ 74 22 ∨ i = μ 74 22 by omega) with e | e
          · rw [o84 i e, y84 (μ 74 22), if_pos rfl]
            have := c2 i i0 e
            omega
          · rw [e]; exact Int.le_refl _
      · by_cases c : v = a ∧ pl = b
        · obtain ⟨rfl, rfl⟩ := c
          rw [z18, if_pos rfl, y22, y82 (μ 74 22), y83 (μ 74 22), if_pos rfl, if_pos rfl]
          exact Or.inr ⟨a1.1, by omega, rfl, rfl⟩
        · rw [z18, if_neg (by omega), y22]
          rcases c4 v pl v0 v1 p0 p1 with ⟨q1, q2⟩ | ⟨q1, q2, q3, q4⟩
          · refine Or.inl ⟨q1, fun k k0 k1 q => ?_⟩
            rcases (show k < μ 74 22 ∨ k = μ 74 22 by omega) with e | e
            · rw [o82 k e, o83 k e] at q
              exact q2 k k0 e q
            · subst e
              rw [y82, if_pos rfl, y83, if_pos rfl] at q
              exact c ⟨q.1.symm, q.2.symm⟩
          · exact Or.inr ⟨q1, by omega, by rw [o82 _ q2]; exact q3, by rw [o83 _ q2]; exact q4⟩
    · rcases sp with y | y
      · exact z5 y.1
      · exact q.2.2.2 _ y.1 y.2.1 y.2.2
  · have := (bitne g3).mp z4
    have := q.2.2.1
    omega
end Ops4
