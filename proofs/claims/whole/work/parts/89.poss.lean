/-! what is possible: the class's lists, the model's table -/
section Poss
variable {G : xG} {l : Launch} {d : Nat} {μ ν α m : xMem} {P : Int → xMem → Prop} {PV' : xMem → Prop} {N : Int}
def XW (m : xMem) : Prop := gW m ∧ gM m ∧ gS m ∧ gC m ∧ gD m
def Sr : List Nat := [27, 28, 29, 30, 31, 32, 34, 35, 36, 37, 38, 39, 41, 42, 43, 44, 45]
def Tr' : List (Nat × Int) := [(33, 5), (33, 6), (33, 8), (33, 10)]
def Sf : List Nat := [90, 91, 92, 93, 94, 95, 96, 97, 98, 99, 100, 101, 102, 103, 104, 105, 106, 108]
def Tf : List (Nat × Int) := [(74, 26), (74, 27), (74, 56), (74, 41), (74, 42), (74, 43), (74, 44), (74, 45), (74, 46), (74, 47), (74, 48), (74, 49)]
theorem XW.kept {S : List Nat} {T : List (Nat × Int)} (h : XW μ) (hf : FrX S T μ ν) (hd : dj [5, 13, 14, 76, 77, 78, 8, 15, 16, 17, 79, 80, 81, 11, 18, 82, 83, 84, 21, 22, 23, 24, 25, 85, 86, 87, 88, 89] [(4, 2), (74, 20), (74, 4), (7, 2), (74, 21), (10, 2), (74, 22), (19, 4), (20, 2), (74, 23), (0, 2)] S T = true) : XW ν :=
  ⟨h.1.kept hf (dj_sub hd (by decide) (by decide)), h.2.1.kept hf (dj_sub hd (by decide) (by decide)), h.2.2.1.kept hf (dj_sub hd (by decide) (by decide)), h.2.2.2.1.kept hf (dj_sub hd (by decide) (by decide)), h.2.2.2.2.kept hf (dj_sub hd (by decide) (by decide))⟩
/-- the class's list of c is what is possible on day t -/
def lok (m : xMem) (c t : Int) : Prop := (0 ≤ m 42 c ∧ m 42 c ≤ m 74 20) ∧ (∀ i j, 0 ≤ i → i < j → j < m 42 c → m 41 (c * 120 + i) < m 41 (c * 120 + j)) ∧ (∀ i, 0 ≤ i → i < m 42 c → 0 ≤ m 41 (c * 120 + i) ∧ m 41 (c * 120 + i) < m 74 20) ∧ ∀ w, (∃ i, 0 ≤ i ∧ i < m 42 c ∧ m 41 (c * 120 + i) = w) ↔ pos m c w t
theorem lok.same {c t : Int} (h : lok m c t) (hA : MA m ν) (e42 : ν 42 c = m 42 c) (e41 : ∀ i, 0 ≤ i → i < 120 → ν 41 (c * 120 + i) = m 41 (c * 120 + i)) (hw : m 74 20 ≤ 120) : lok ν c t := by
  obtain ⟨h1, h2, h3, h4⟩ := h
  unfold lok
  rw [e42, hA.2 20 (by decide) (by decide), pos_eq hA]
  refine ⟨h1, fun i j i0 ij j1 => ?_, fun i i0 i1 => ?_, fun w => (show _ ↔ _ from ⟨fun ⟨i, i0, i1, i2⟩ => ?_, fun q => ?_⟩)⟩
  · rw [e41 i i0 (by omega), e41 j (by omega) (by omega)]; exact h2 i j i0 ij j1
  · rw [e41 i i0 (by omega)]; exact h3 i i0 i1
  · rw [e41 i i0 (by omega)] at i2; exact (h4 w).mp ⟨i, i0, i1, i2⟩
  · obtain ⟨i, i0, i1, i2⟩ := (h4 w).mpr q
    exact ⟨i, i0, i1, by rw [e41 i i0 (by omega)]; exact i2⟩
/-- who is read was known -/
theorem wh_known {tl w t : Int} (hM : gM m) (h : 0 < (wh m tl w t).1) : m 78 w ≤ t := by
  have h01 : isMn m t (cwd m tl 0) w ∨ isMn m t (cwd m tl (m 87 tl - 1)) w := by
    rcases Classical.em (isMn m t (cwd m tl 0) w) with q | q
    · exact Or.inl q
    · rcases Classical.em (isMn m t (cwd m tl (m 87 tl - 1)) w) with q2 | q2
      · exact Or.inr q2
      · have e : wh m tl w t = T0 := whole_0 (ind_f q) (ind_f q2)
        rw [e] at h
        exact absurd h (by decide)
  have go : ∀ a, isMn m t a w → m 78 w ≤ t := by
    rintro a ⟨k, k0, k1, k2, k3, k4⟩
    have := (hM.2.2.2.1 k k0 k1).2.2.2
    rw [k4] at this
    omega
  exact h01.elim (go _) (go _)
theorem pos_tl {c w t tl : Int} (hM : gM m) (ht : isTl m c t tl) (hw : 0 ≤ w ∧ w < m 74 20) : pos m c w t ↔ (m 77 w = m 89 c ∧ 0 < (wh m tl w t).1) := by
  constructor
  · rintro ⟨tl', q1, q2, q3, q4, q5⟩
    rw [isTl_u q1 ht] at q5
    exact ⟨q4, q5⟩
  · rintro ⟨q1, q2⟩
    exact ⟨tl, ht, hw, wh_known hM q2, q1, q2⟩
theorem lst_lok {c t tl km ks : Int} (hM : gM m) (ht : isTl m c t tl) (h1 : kP m t km) (h2 : kS m t ks) (h : lst m c tl km ks) : lok m c t := by
  obtain ⟨a1, a2, a3, a4⟩ := h
  refine ⟨a1, a2, a3, fun w => ⟨fun ⟨i, i0, i1, i2⟩ => ?_, fun q => ?_⟩⟩
  · have b := a3 i i0 i1
    rw [i2] at b
    exact (pos_tl hM ht b).mpr ((a4 t h1 h2 w b.1 b.2).mp ⟨i, i0, i1, i2⟩)
  · obtain ⟨-, -, b, -⟩ := id q
    exact (a4 t h1 h2 w b.1 b.2).mpr ((pos_tl hM ht b).mp q)
theorem none_lok {c t : Int} (hw : 0 ≤ m 74 20) (hn : ∀ tl, ¬ isTl m c t tl) (h0 : m 42 c = 0) : lok m c t := by
  refine ⟨by omega, fun i j i0 ij j1 => by omega, fun i i0 i1 => by omega, fun w => ⟨fun ⟨i, i0, i1, _⟩ => by omega, fun ⟨tl, q, _⟩ => absurd q (hn tl)⟩⟩
theorem shW.x {tl t : Int} {S : List Nat} {T : List (Nat × Int)} (h : shW α tl t μ) (hf : FrX S T μ ν) (hd : dj [34, 35, 36, 37] [(33, 5), (33, 6)] S T = true) : shW α tl t ν := by
  have e34 : ν 34 = μ 34 := hf.a hd (by decide)
  have e35 : ν 35 = μ 35 := hf.a hd (by decide)
  have e36 : ν 36 = μ 36 := hf.a hd (by decide)
  have e37 : ν 37 = μ 37 := hf.a hd (by decide)
  have f5 : ν 33 5 = μ 33 5 := hf.b hd (by decide)
  have f6 : ν 33 6 = μ 33 6 := hf.b hd (by decide)
  unfold shW at *
  rw [e34, e35, e36, e37, f5, f6]
  exact h
theorem s_recall {c t : Int} (hc : 0 ≤ c ∧ c < 16) (ht : iR t) (hX : XW m) (hP : gP m) (hSt : StB m) (hb : m 27 6 + 120 < 2147483646) (h37 : m 37 0 = 0)
    (h : ∀ r m', FrX Sr Tr' m m' → gP m' → StB m' → m' 27 6 ≤ m 27 6 + 120 → m' 37 0 = 0 → (∀ c', 0 ≤ c' → c' < 16 → c' ≠ c → m' 42 c' = m 42 c' ∧ ∀ i, 0 ≤ i → i < 120 → m' 41 (c' * 120 + i) = m 41 (c' * 120 + i)) → lok m' c t → bit r (∃ tl, isTl m c t tl) → P r m') : CI G l (d + 40) mX6_recall [xr G 40, xi c, xi t] m P := by
  obtain ⟨hW, hM, hS, hC, hD⟩ := id hX
  have hw := hW.1
  have hbw := hw.1
  have htl := hC.2.1
  obtain ⟨pm, ps, pc'⟩ := hP c hc.1 hc.2
  have hmb := hM.1.1
  have hsb := hS.1.1
  apply E_X6_recall
  refine s_tellingOf hC ⟨rfl, rfl, rfl, rfl, rfl, rfl⟩ (by omega) ht (fun tl h1 => s_knownM hM rfl rfl ht (fun km h2 => s_knownS hS rfl rfl ht (fun ks h3 => ?_)))
  have t43 : -1 ≤ m 43 c ∧ m 43 c < 60 := by
    rcases pc' with q | q
    · omega
    · have := q.1; omega
  have go : K_X6_recall_79 G l (d + 40) P c t tl km ks m := by
    apply B_X6_recall_79
    have f0 := (FrX.sa (μ := m) (k := 43) (i := c) (v := tl)).tr ((FrX.sa (k := 44) (i := c) (v := km)).tr ((FrX.sa (k := 45) (i := c) (v := ks)).tr (FrX.sa (k := 42) (i := c) (v := 0))))
    generalize hm0 : st2 (st2 (st2 (st2 m 43 c tl) 44 c km) 45 c ks) 42 c 0 = m0 at *
    have z43 : ∀ i, m0 43 i = if i = c then tl else m 43 i := fun i => by rw [← hm0]; simp [st2]
    have z44 : ∀ i, m0 44 i = if i = c then km else m 44 i := fun i => by rw [← hm0]; simp [st2]
    have z45 : ∀ i, m0 45 i = if i = c then ks else m 45 i := fun i => by rw [← hm0]; simp [st2]
    have z42 : ∀ i, m0 42 i = if i = c then 0 else m 42 i := fun i => by rw [← hm0]; simp [st2]
    have hA0 : MA m m0 := MA.of f0 (by decide)
    have e276 : m0 27 6 = m 27 6 := f0.f 27 6 (by decide)
    have st0 : StB m0 := by
      unfold StB at *
      rw [f0.k 28 (by decide), e276]
      exact hSt
    -- the lists of the others
    have gPo : ∀ y : xMem, MA m y → (∀ i, y 43 i = if i = c then tl else m 43 i) → (∀ i, y 44 i = if i = c then km else m 44 i) → (∀ i, y 45 i = if i = c then ks else m 45 i) → (∀ c', 0 ≤ c' → c' < 16 → c' ≠ c → y 42 c' = m 42 c' ∧ ∀ i, 0 ≤ i → i < 120 → y 41 (c' * 120 + i) = m 41 (c' * 120 + i)) → ((tl = -1 ∧ y 42 c = 0) ∨ ((0 ≤ tl ∧ tl < m 74 23) ∧ m 85 tl = c ∧ lst y c tl km ks)) → gP y := by
      intro y hA y43 y44 y45 yo yc c' c0 c1
      rw [y43, y44, y45, hA.2 21 (by decide) (by decide), hA.2 22 (by decide) (by decide), hA.2 23 (by decide) (by decide), hA.k 85 (by decide) (by decide)]
      by_cases e : c' = c
      · subst e
        rw [if_pos rfl, if_pos rfl, if_pos rfl]
        exact ⟨h2.1, h3.1, yc⟩
      · rw [if_neg e, if_neg e, if_neg e]
        obtain ⟨o1, o2⟩ := yo c' c0 c1 e
        obtain ⟨q1, q2, q3⟩ := hP c' c0 c1
        refine ⟨q1, q2, ?_⟩
        rcases q3 with q | ⟨q3, q4, ⟨a1, a2, a3, a4⟩⟩
        · exact Or.inl ⟨q.1, by rw [o1]; exact q.2⟩
        · refine Or.inr ⟨q3, q4, ?_⟩
          unfold lst
          rw [o1, hA.2 20 (by decide) (by decide), wh_eq hA, kP_eq hA, kS_eq hA, hA.k 77 (by decide) (by decide), hA.k 89 (by decide) (by decide)]
          refine ⟨a1, fun i j i0 ij j1 => ?_, fun i i0 i1 => ?_, fun t' k1 k2 w w0 w1 => (show _ ↔ _ from ?_)⟩
          · rw [o2 i i0 (by omega), o2 j (by omega) (by omega)]; exact a2 i j i0 ij j1
          · rw [o2 i i0 (by omega)]; exact a3 i i0 i1
          · rw [← a4 t' k1 k2 w w0 w1]
            exact ⟨fun ⟨i, i0, i1, i2⟩ => ⟨i, i0, i1, by rw [← o2 i i0 (by omega)]; exact i2⟩, fun ⟨i, i0, i1, i2⟩ => ⟨i, i0, i1, by rw [o2 i i0 (by omega)]; exact i2⟩⟩
    have tlb : iR tl := by
      rcases h1 with q | q
      · have := q.1; omega
      · have := q.1; omega
    refine ⟨hc, tlb, fun z => ?_, fun z => ?_⟩
    · have q5 : isTl m c t tl := by
        rcases h1 with q | q
        · exact absurd q.1 z
        · exact q
      have lc := tl_told hC q5
      obtain ⟨cl1, cl2⟩ := hC.2.2.2.2.2.1 c hc.1 hc.2
      have ctl := (hC.2.2.2.1 tl q5.1.1 q5.1.2).2.2.2.2.2.2.1
      refine s_xTake (μ := m) hW hM hS hC f0 (by decide) h37 q5.1 ht (fun m1 f1 e0 sh => ?_)
      have g1 := f0.tr f1
      have y43 : ∀ i, m1 43 i = if i = c then tl else m 43 i := fun i => by rw [f1.k 43 (by decide)]; exact z43 i
      have y44 : ∀ i, m1 44 i = if i = c then km else m 44 i := fun i => by rw [f1.k 44 (by decide)]; exact z44 i
      have y45 : ∀ i, m1 45 i = if i = c then ks else m 45 i := fun i => by rw [f1.k 45 (by decide)]; exact z45 i
      have loop : ∀ (n : Nat) (v : Int) (y : xMem), v + n = m 74 20 → 0 ≤ v → FrX Sr Tr' m y → y 43 = m1 43 → y 44 = m1 44 → y 45 = m1 45 → StB y → y 27 6 ≤ m 27 6 + v → y 37 0 = 0 → shW m tl t y → (∀ c', 0 ≤ c' → c' < 16 → c' ≠ c → y 42 c' = m 42 c' ∧ ∀ i, 0 ≤ i → i < 120 → y 41 (c' * 120 + i) = m 41 (c' * 120 + i)) → (0 ≤ y 42 c ∧ y 42 c ≤ v) → (∀ i j, 0 ≤ i → i < j → j < y 42 c → y 41 (c * 120 + i) < y 41 (c * 120 + j)) → (∀ i, 0 ≤ i → i < y 42 c → 0 ≤ y 41 (c * 120 + i) ∧ y 41 (c * 120 + i) < v) → (∀ w, 0 ≤ w → w < v → ((∃ i, 0 ≤ i ∧ i < y 42 c ∧ y 41 (c * 120 + i) = w) ↔ (m 77 w = m 89 c ∧ 0 < (wh m tl w t).1))) → K_X6_recall_132 G l (d + 40) P c v y := by
        intro n
        induction n with
        | zero =>
          intro v y hv v0 fy e43 e44 e45 sy by' y37 shy yo ys yi yr yx
          have hAy : MA m y := MA.of fy (by decide)
          have hl : lst y c tl km ks := by
            refine ⟨by rw [hAy.2 20 (by decide) (by decide)]; omega, yi, fun i i0 i1 => by rw [hAy.2 20 (by decide) (by decide)]; have := yr i i0 i1; omega, ?_⟩
            rw [wh_eq hAy, kP_eq hAy, kS_eq hAy, hAy.k 77 (by decide) (by decide), hAy.k 89 (by decide) (by decide), hAy.2 20 (by decide) (by decide)]
            intro t' k1 k2 w w0 w1
            have sd : sameD m m tl km ks := ⟨rfl, fun _ _ _ => rfl, fun _ _ _ => ⟨rfl, fun _ _ _ => rfl⟩, fun _ _ _ => ⟨rfl, rfl⟩, fun _ _ _ => ⟨rfl, rfl⟩⟩
            rw [wh_same hw ctl ⟨w0, w1⟩ (fun k k0 k1' => (hM.1.2 k k0 (by have := h2.1; omega)).2.1) sd h2 k1 h3 k2]
            exact yx w w0 (by omega)
          have gPy : gP y := gPo y hAy (by rw [e43]; exact y43) (by rw [e44]; exact y44) (by rw [e45]; exact y45) yo (Or.inr ⟨q5.1, q5.2.1, hl⟩)
          apply B_X6_recall_132
          rw [fy.f 4 2 (by decide), hW.2.2.1.1]
          refine ⟨by omega, by omega, fun _ => h 1 y fy gPy sy (by omega) y37 yo ?_ (Or.inl ⟨rfl, tl, q5⟩), fun z => by omega⟩
          exact lst_lok (hM.kept fy (by decide)) (by rw [isTl_eq hAy]; exact q5) (by rw [kP_eq hAy]; exact h2) (by rw [kS_eq hAy]; exact h3) hl
        | succ n ih =>
          intro v y hv v0 fy e43 e44 e45 sy by' y37 shy yo ys yi yr yx
          have lw := (hw.2 v v0 (by omega)).1
          have rw1 := (hW.2.2.1.2 v v0 (by omega)).1
          have hAy : MA m y := MA.of fy (by decide)
          have same : ∀ y' : xMem, FrX Sr Tr' m y' → y' 43 = m1 43 → y' 44 = m1 44 → y' 45 = m1 45 → StB y' → y' 27 6 ≤ m 27 6 + (v + 1) → y' 37 0 = 0 → shW m tl t y' → y' 41 = y 41 → y' 42 = y 42 → ¬ (m 77 v = m 89 c ∧ 0 < (wh m tl v t).1) → K_X6_recall_132 G l (d + 40) P c (v + 1) y' := by
            intro y' f' a43 a44 a45 s' b' c37 sh' a41 a42 hn
            refine ih (v + 1) y' (by omega) (by omega) f' a43 a44 a45 s' b' c37 sh' (by rw [a41, a42]; exact yo) (by rw [a42]; omega) (by rw [a41, a42]; exact yi) (fun i i0 i1 => by rw [a42] at i1; rw [a41]; have := yr i i0 i1; omega) (fun w w0 w1 => ?_)
            rw [a41, a42]
            rcases (show w < v ∨ w = v by omega) with q | q
            · exact yx w w0 q
            · subst q
              exact ⟨fun ⟨i, i0, i1, i2⟩ => by have := yr i i0 i1; omega, fun q => absurd q hn⟩
          apply B_X6_recall_132
          rw [fy.f 4 2 (by decide), hW.2.2.1.1, fy.k 14 (by decide), fy.k 25 (by decide), rw1, cl1]
          refine ⟨by omega, by omega, fun z => by omega, fun _ => ⟨by omega, hc, by omega, by omega, fun z2 => same y fy e43 e44 e45 sy (by omega) y37 shy rfl rfl (fun q => z2 q.1), fun z2 => ?_⟩⟩
          have rW : rlW m y := by
            have := hW.2.2.1
            unfold rlW at *
            rw [fy.f 4 2 (by decide), fy.k 14 (by decide), fy.k 13 (by decide)]
            exact this
          have rM : rlM m y := by
            have := hM.2.1
            unfold rlM at *
            rw [fy.f 7 2 (by decide), fy.k 15 (by decide), fy.k 16 (by decide), fy.k 17 (by decide)]
            exact this
          refine s_readBy (α := m) (tl := tl) (t := t) hw hW.2.1 rW hM.1 rM shy ⟨v0, by omega⟩ (by omega) (Or.inl rfl) sy (by omega) (fun y2 fB s2 b6 b7 b8 hd2 => ?_)
          have f2 := fB.x
          have vn := (wh_v (tl := tl) (t := t) hw ctl.1 (show 0 ≤ v ∧ v < m 74 20 by omega)).1
          have er : y2 29 7920 = cap 1 (wh m tl v t).1 := by rw [hd2.1, b7]; rfl
          have e41 : y2 41 = y 41 := f2.k 41 (by decide)
          have e42 : y2 42 = y 42 := f2.k 42 (by decide)
          have g2 : FrX Sr Tr' m y2 := (fy.tr f2).sub (by decide) (by decide)
          rw [er]
          refine ⟨fun z3 => same y2 g2 (by rw [f2.k 43 (by decide)]; exact e43) (by rw [f2.k 44 (by decide)]; exact e44) (by rw [f2.k 45 (by decide)]; exact e45) s2 (by omega) (by rw [f2.f 37 0 (by decide)]; exact y37) (shy.keptB fB) e41 e42 (fun q => ?_), fun z3 => ?_⟩
          · have := q.2
            unfold cap at z3
            split at z3 <;> omega
          · have hp : 0 < (wh m tl v t).1 := by
              unfold cap at z3
              split at z3 <;> omega
            rw [e42]
            have f3 := (FrX.sa (μ := y2) (k := 41) (i := c * 120 + y 42 c) (v := v)).tr (FrX.sa (k := 42) (i := c) (v := y 42 c + 1))
            refine ⟨by omega, ?_⟩
            generalize hy3 : st2 (st2 y2 41 (c * 120 + y 42 c) v) 42 c (y 42 c + 1) = y3 at *
            have k41 : ∀ i, y3 41 i = if i = c * 120 + y 42 c then v else y 41 i := fun i => by rw [← hy3]; simp [st2]; rw [e41]
            have k42 : ∀ i, y3 42 i = if i = c then y 42 c + 1 else y 42 i := fun i => by rw [← hy3]; simp [st2]; rw [e42]
            have k42c : y3 42 c = y 42 c + 1 := by rw [k42, if_pos rfl]
            refine ih (v + 1) y3 (by omega) (by omega) ((g2.tr f3).sub (by decide) (by decide)) (by rw [f3.k 43 (by decide), f2.k 43 (by decide)]; exact e43) (by rw [f3.k 44 (by decide), f2.k 44 (by decide)]; exact e44) (by rw [f3.k 45 (by decide), f2.k 45 (by decide)]; exact e45) ?_ ?_ ?_ ((shy.keptB fB).x f3 (by decide)) (fun c' c0 c1 hne => ?_) (by rw [k42c]; omega) (fun i j i0 ij j1 => ?_) (fun i i0 i1 => ?_) (fun w w0 w1 => ?_)
            · unfold StB at *
              rw [f3.k 28 (by decide), f3.f 27 6 (by decide)]
              exact s2
            · rw [f3.f 27 6 (by decide)]; omega
            · rw [f3.f 37 0 (by decide), f2.f 37 0 (by decide)]; exact y37
            · obtain ⟨o1, o2⟩ := yo c' c0 c1 hne
              rw [k42, if_neg hne]
              exact ⟨o1, fun i i0 i1 => by rw [k41, if_neg (by omega)]; exact o2 i i0 i1⟩
            · rw [k42c] at j1
              rw [k41, k41, if_neg (by omega)]
              by_cases e : j = y 42 c
              · rw [if_pos (by omega)]; exact (yr i i0 (by omega)).2
              · rw [if_neg (by omega)]; exact yi i j i0 ij (by omega)
            · rw [k42c] at i1
              rw [k41]
              by_cases e : i = y 42 c
              · rw [if_pos (by omega)]; omega
              · rw [if_neg (by omega)]; have := yr i i0 (by omega); omega
            · rw [k42c]
              rcases (show w < v ∨ w = v by omega) with q | q
              · rw [← yx w w0 q]
                constructor
                · rintro ⟨i, i0, i1, i2⟩
                  rw [k41] at i2
                  by_cases e : i = y 42 c
                  · rw [if_pos (by omega)] at i2; omega
                  · rw [if_neg (by omega)] at i2; exact ⟨i, i0, by omega, i2⟩
                · rintro ⟨i, i0, i1, i2⟩
                  exact ⟨i, i0, by omega, by rw [k41, if_neg (by omega)]; exact i2⟩
              · subst q
                exact ⟨fun _ => ⟨z2, hp⟩, fun _ => ⟨y 42 c, ys.1, by omega, by rw [k41, if_pos rfl]⟩⟩
      have m42 : ∀ i, m1 42 i = if i = c then 0 else m 42 i := fun i => by rw [f1.k 42 (by decide)]; exact z42 i
      have m41 : m1 41 = m 41 := g1.k 41 (by decide)
      refine loop (m 74 20).toNat 0 m1 (by omega) (by omega) (g1.sub (by decide) (by decide)) rfl rfl rfl ?_ ?_ ?_ sh (fun c' c0 c1 hne => ⟨by rw [m42, if_neg hne], fun i _ _ => by rw [m41]⟩) (by rw [m42, if_pos rfl]; omega) (fun i j i0 ij j1 => by rw [m42, if_pos rfl] at j1; omega) (fun i i0 i1 => by rw [m42, if_pos rfl] at i1; omega) (fun w w0 w1 => by omega)
      · unfold StB at *
        rw [f1.k 28 (by decide), f1.f 27 6 (by decide)]
        exact st0
      · rw [f1.f 27 6 (by decide)]; omega
      · rw [e0, f0.f 37 0 (by decide)]; exact h37
    · subst z
      have nn : ∀ tl', ¬ isTl m c t tl' := by
        rcases h1 with q | q
        · exact q.2
        · have := q.1; omega
      have yo : ∀ c', 0 ≤ c' → c' < 16 → c' ≠ c → m0 42 c' = m 42 c' ∧ ∀ i, 0 ≤ i → i < 120 → m0 41 (c' * 120 + i) = m 41 (c' * 120 + i) := fun c' _ _ hne => ⟨by rw [z42, if_neg hne], fun i _ _ => by rw [f0.k 41 (by decide)]⟩
      have z42c : m0 42 c = 0 := by rw [z42, if_pos rfl]
      refine h 0 m0 (f0.sub (by decide) (by decide)) (gPo m0 hA0 z43 z44 z45 yo (Or.inl ⟨rfl, z42c⟩)) st0 (by omega) (by rw [f0.f 37 0 (by decide)]; exact h37) yo (none_lok (by rw [hA0.2 20 (by decide) (by decide)]; omega) (by rw [isTl_eq hA0]; exact nn) z42c) (Or.inr ⟨rfl, fun ⟨tl', q⟩ => nn tl' q⟩)
  have hlb : iR (m 43 c) ∧ iR (m 44 c) ∧ iR (m 45 c) := by omega
  refine ⟨hc, hlb.1, fun _ => go, fun z1 => ⟨hlb.2.1, fun _ => go, fun z2 => ⟨hlb.2.2, fun _ => go, fun z3 => ⟨fun z4 => ?_, fun z4 => ?_⟩⟩⟩⟩
  · have nn : ∀ tl', ¬ isTl m c t tl' := by
      rcases h1 with q | q
      · exact q.2
      · have := q.1; omega
    have s0 : m 42 c = 0 := by
      rcases pc' with q | q
      · exact q.2
      · have := q.1; omega
    exact h 0 m FrX.rf hP hSt (by omega) h37 (fun _ _ _ _ => ⟨rfl, fun _ _ _ => rfl⟩) (none_lok hbw.1 nn s0) (Or.inr ⟨rfl, fun ⟨tl', q⟩ => nn tl' q⟩)
  · have q5 : isTl m c t tl := by
      rcases h1 with q | q
      · exact absurd q.1 z4
      · exact q
    have hl : lst m c tl km ks := by
      rcases pc' with q | q
      · have := q.1; omega
      · rw [z1, z2, z3]; exact q.2.2
    exact h 1 m FrX.rf hP hSt (by omega) h37 (fun _ _ _ _ => ⟨rfl, fun _ _ _ => rfl⟩) (lst_lok hM q5 h2 h3 hl) (Or.inl ⟨rfl, tl, q5⟩)
/-- the lists of all lights -/
theorem s_recallLights {t : Int} (ht : iR t) (hX : XW m) (hP : gP m) (hG : gG m) (hSt : StB m) (hb : m 27 6 + 1920 < 2147483646) (h37 : m 37 0 = 0)
    (h : ∀ m', FrX Sr Tr' m m' → gP m' → StB m' → m' 27 6 ≤ m 27 6 + 1920 → m' 37 0 = 0 → (∀ c, lit m c → lok m' c t) → PV' m') : CV G l (d + 41) mX6_recallLights [xr G 40, xr G 46, xi t] m PV' := by
  have hw := hX.1.1.1
  apply E_X6_recallLights
  have main : ∀ (n : Nat) (v : Int) (y : xMem), v + n = 16 → 0 ≤ v → FrX Sr Tr' m y → gP y → StB y → y 27 6 ≤ m 27 6 + 120 * v → y 37 0 = 0 → (∀ c, lit m c → c < v → lok y c t) → K_X6_recallLights_2 G l (d + 41) PV' t v y := by
    intro n
    induction n with
    | zero =>
      intro v y hv v0 fy gy sy by' y37 yl
      apply B_X6_recallLights_2
      exact ⟨by omega, fun _ => h y fy gy sy (by omega) y37 (fun c hc => yl c hc (by have := hc.2.1; omega)), fun z => by omega⟩
    | succ n ih =>
      intro v y hv v0 fy gy sy by' y37 yl
      apply B_X6_recallLights_2
      refine ⟨by omega, fun z => by omega, fun _ => s_hasLight hG (fy.k 49 (by decide)) (by omega) (fun r g => ⟨fun z => ih (v + 1) y (by omega) (by omega) fy gy sy (by omega) y37 (fun c hc hcv => ?_), fun z => ?_⟩)⟩
      · rcases (show c < v ∨ c = v by omega) with q | q
        · exact yl c hc q
        · subst q; exact absurd hc ((bit0 g).mp z)
      · refine s_recall (m := y) ⟨v0, by omega⟩ ht (hX.kept fy (by decide)) gy sy (by omega) y37 (fun r8 y2 f2 g2 s2 b2 c37 o2 l2 _ => ih (v + 1) y2 (by omega) (by omega) ((fy.tr f2).sub (by decide) (by decide)) g2 s2 (by omega) c37 (fun c hc hcv => ?_))
        rcases (show c < v ∨ c = v by omega) with q | q
        · have o := o2 c hc.1 hc.2.1 (by omega)
          have hA : MA y y2 := MA.of f2 (by decide)
          exact (yl c hc q).same hA o.1 o.2 (by rw [fy.f 74 20 (by decide)]; omega)
        · subst q; exact l2
  exact main 16 0 m (by omega) (by omega) FrX.rf hP hSt (by omega) h37 (fun c hc hcv => by have := hc.1; omega)
/-- the model's table -/
theorem s_mfind {t : Int} (hN9 : 0 ≤ N ∧ N ≤ 600) (ht : iR t) (hX : XW m) (hK : gK N m) (h : ∀ ν, FrX Sf Tf m ν → gK N ν → Can ν t → PV' ν) : CV G l (d + 9) mX12_find [xr G 74, xi t] m PV' := by
  obtain ⟨hW, hM, hS, hC, hD⟩ := id hX
  have hw := hW.1
  have hbw := hw.1
  apply E_X12_find
  refine s_knowI hN9 ht hW hM hS hD hK (fun m1 f1 k1 kn e26 e27 => ?_)
  have hA1 : MA m m1 := MA.of f1 (by decide)
  have kn1 : Kn m t m1 := (Kn_eq hA1).mp kn
  obtain ⟨g1, g2, g3, g4, g5⟩ := id k1
  refine ⟨by omega, fun z => ?_, fun z => h m1 (f1.sub (by decide) (by decide)) k1 (by have := (g5 e27).2 (by omega); rw [e26] at this; exact this)⟩
  have main : ∀ (n : Nat) (v : Int) (y : xMem), v + n = 16 → 0 ≤ v → FrX Sf [(74, 41), (74, 42), (74, 43), (74, 44), (74, 45), (74, 46), (74, 47), (74, 48), (74, 49)] m1 y → y 90 = m1 90 → y 91 = m1 91 → (∀ c w, 0 ≤ c → c < v → 0 ≤ w → w < 120 → y 108 (120 * c + w) = ind (pos m c w t)) → K_X12_find_15 G l (d + 9) PV' t v y := by
    intro n
    induction n with
    | zero =>
      intro v y hv v0 fy e90 e91 hc
      apply B_X12_find_15
      refine ⟨by omega, fun _ => ?_, fun z => by omega⟩
      have f2 := fy.tr (FrX.st (μ := y) (k := 74) (i := 56) (v := 1))
      have hA2 : MA m1 (st2 y 74 56 1) := MA.of f2 (by decide)
      have hA : MA m (st2 y 74 56 1) := hA1.tr hA2
      have e26' : st2 y 74 56 1 74 26 = t := by rw [f2.f 74 26 (by decide)]; exact e26
      have e27' : st2 y 74 56 1 74 27 = st2 y 74 56 1 74 5 := by rw [f2.f 74 27 (by decide), f2.f 74 5 (by decide)]; exact e27
      have can : Can (st2 y 74 56 1) t := by
        unfold Can
        rw [pos_eq hA, st_f _ _ _ _ _ (by decide)]
        intro c w c0 c1 w0 w1
        exact hc c w c0 (by omega) w0 w1
      refine h _ ((f1.tr f2).sub (by decide) (by decide)) ⟨by rw [f2.f 74 5 (by decide)]; exact g1, by rw [f2.f 74 27 (by decide), f2.f 74 5 (by decide)]; exact g2, by rw [f2.f 74 26 (by decide)]; exact g3, Or.inr (st_s _ _ _ _), fun _ => ⟨?_, fun _ => by rw [e26']; exact can⟩⟩ can
      rw [e26', Kn_eq hA]
      unfold Kn at *
      rw [st_f _ _ _ _ _ (by decide), st_f _ _ _ _ _ (by decide), e90, e91]
      exact kn1
    | succ n ih =>
      intro v y hv v0 fy e90 e91 hc
      have hAy : MA m y := hA1.tr (MA.of fy (by decide))
      apply B_X12_find_15
      refine ⟨by omega, fun z => by omega, fun _ => s_mTellingOf hC hAy (by omega) ht (fun tl htl => ?_)⟩
      have htb := hC.2.1
      have tlb : -1 ≤ tl ∧ tl < 60 := by
        rcases htl with q | q
        · have := q.1; omega
        · have := q.1; omega
      have inner : ∀ (k : Nat) (w : Int) (y : xMem), w + k = 120 → 0 ≤ w → FrX Sf [(74, 41), (74, 42), (74, 43), (74, 44), (74, 45), (74, 46), (74, 47), (74, 48), (74, 49)] m1 y → y 90 = m1 90 → y 91 = m1 91 → (∀ c w', 0 ≤ c → (c < v ∨ (c = v ∧ w' < w)) → 0 ≤ w' → w' < 120 → y 108 (120 * c + w') = ind (pos m c w' t)) → K_X12_find_31 G l (d + 9) PV' t v tl w y := by
        intro k
        induction k with
        | zero =>
          intro w y hk w0 fy e90 e91 hc
          apply B_X12_find_31
          exact ⟨by omega, fun _ => ih (v + 1) y (by omega) (by omega) fy e90 e91 (fun c w' c0 c1 a b => hc c w' c0 (by omega) a b), fun z => by omega⟩
        | succ k ihk =>
          intro w y hk w0 fy e90 e91 hc
          have hAy : MA m y := hA1.tr (MA.of fy (by decide))
          have nx : ∀ (y' : xMem) (x : Int), FrX Sf [(74, 41), (74, 42), (74, 43), (74, 44), (74, 45), (74, 46), (74, 47), (74, 48), (74, 49)] m1 y' → y' 90 = m1 90 → y' 91 = m1 91 → y' 108 = y 108 → x = ind (pos m v w t) → (0 ≤ 120 * v + w ∧ 120 * v + w < 1920) ∧ K_X12_find_31 G l (d + 9) PV' t v tl (w + 1) (st2 y' 108 (120 * v + w) x) := by
            intro y' x f' a90 a91 a108 hx
            refine ⟨by omega, ihk (w + 1) _ (by omega) (by omega) ((f'.tr (FrX.sa (k := 108))).sub (by decide) (by decide)) (by rw [st_f _ _ _ _ _ (by decide)]; exact a90) (by rw [st_f _ _ _ _ _ (by decide)]; exact a91) (fun c w' c0 c1 a b => ?_)⟩
            rw [st_i, a108]
            by_cases e : 120 * c + w' = 120 * v + w
            · rw [if_pos e, hx, show c = v by omega, show w' = w by omega]
            · rw [if_neg e]; exact hc c w' c0 (by omega) a b
          apply B_X12_find_31
          refine ⟨by omega, fun z => by omega, fun _ => ⟨by omega, fun z => nx y 0 fy e90 e91 rfl ?_, fun z => ?_⟩⟩
          · rw [ind_f]
            rintro ⟨tl', q, _⟩
            have := tlo_u htl (Or.inr q)
            have := q.1
            omega
          · have q5 : isTl m v t tl := by
              rcases htl with q | q
              · have := q.1; omega
              · exact q
            refine s_mIsKnown hW hAy hD (by omega) ht (fun r8 h8 => ⟨fun z2 => nx y 0 fy e90 e91 rfl ?_, fun z2 => ?_⟩)
            · rw [ind_f]
              rintro ⟨tl', q, q2, q3, _⟩
              exact (bit0 h8).mp z2 ⟨q2, q3⟩
            · have q8 := (bitne h8).mp z2
              have lw := (hw.2 w q8.1.1 q8.1.2).1
              have cl := (hC.2.2.2.2.2.1 v v0 (by omega)).2
              rw [hAy.k 77 (by decide) (by decide), hAy.k 89 (by decide) (by decide)]
              refine ⟨by omega, by omega, by omega, by omega, fun z3 => nx y 0 fy e90 e91 rfl ?_, fun z3 => ?_⟩
              · rw [ind_f]
                rintro ⟨tl', q, q2, q3, q4, _⟩
                exact z3 q4
              · have ctl := (hC.2.2.2.1 tl q5.1.1 q5.1.2).2.2.2.2.2.2.1
                have kny : Kn m t y := by
                  unfold Kn at *
                  rw [e90, e91]
                  exact kn1
                refine s_read (α := m) hw hM.1 hAy kny (by omega) ctl q8.1 (fun y2 f2 _ => ?_)
                have f2x := f2.x
                have vn := (wh_v (tl := tl) (t := t) hw ctl.1 q8.1).1
                have f3 : FrX Sf [(74, 41), (74, 42), (74, 43), (74, 44), (74, 45), (74, 46), (74, 47), (74, 48), (74, 49)] m1 y2 := (fy.tr f2x).sub (by decide) (by decide)
                refine ⟨fun z4 => nx y2 0 f3 (by rw [f2x.k 90 (by decide)]; exact e90) (by rw [f2x.k 91 (by decide)]; exact e91) (f2x.k 108 (by decide)) ?_, fun z4 => nx y2 1 f3 (by rw [f2x.k 90 (by decide)]; exact e90) (by rw [f2x.k 91 (by decide)]; exact e91) (f2x.k 108 (by decide)) ?_⟩
                · rw [ind_f]
                  rw [pos_tl hM q5 q8.1]
                  rintro ⟨q, q2⟩
                  unfold cap at z4
                  split at z4 <;> omega
                · rw [ind_t]
                  rw [pos_tl hM q5 q8.1]
                  refine ⟨z3, ?_⟩
                  unfold cap at z4
                  split at z4 <;> omega
      exact inner 120 0 y (by omega) (by omega) fy e90 e91 (fun c w' c0 c1 a b => hc c w' c0 (by omega) a b)
  exact main 16 0 m1 (by omega) (by omega) FrX.rf rfl rfl (fun c w c0 c1 => by omega)
end Poss
