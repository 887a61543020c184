/-! unfair -/
section Unfair
variable {G : xG} {l : Launch} {d : Nat} {μ ν α m y z : xMem} {P : Int → xMem → Prop} {PV' : xMem → Prop} {N t : Int}
def isSo (μ : xMem) (c t k : Int) : Prop := (0 ≤ k ∧ k < μ 74 67) ∧ μ 114 k = c ∧ μ 116 k ≤ t ∧ ∀ j, k < j → j < μ 74 67 → μ 116 j ≤ t → μ 114 j ≠ c
def slo (μ : xMem) (c t r : Int) : Prop := (r = -1 ∧ ∀ k, ¬ isSo μ c t k) ∨ ∃ k, isSo μ c t k ∧ r = μ 115 k
theorem isSo_u {c t x y : Int} (h1 : isSo μ c t x) (h2 : isSo μ c t y) : x = y := by
  rcases (show x < y ∨ x = y ∨ y < x by omega) with z | z | z
  · exact absurd h2.2.1 (h1.2.2.2 y z h2.1.2 h2.2.2.1)
  · exact z
  · exact absurd h1.2.1 (h2.2.2.2 x z h1.1.2 h1.2.2.1)
theorem slo_u {c t x y : Int} (h1 : slo μ c t x) (h2 : slo μ c t y) : x = y := by
  rcases h1 with ⟨a, b⟩ | ⟨k, a, b⟩ <;> rcases h2 with ⟨c, e⟩ | ⟨j, c, e⟩
  · omega
  · exact absurd c (b _)
  · exact absurd a (e _)
  · rw [b, e, isSo_u a c]
theorem slo_w {c t r : Int} (hL : gL μ) (h : slo μ c t r) (hr : r ≠ -1) : (0 ≤ r ∧ r < μ 74 20) ∧ μ 77 r = μ 89 c := by
  rcases h with q | ⟨k, q1, q2⟩
  · exact absurd q.1 hr
  · obtain ⟨-, -, -, -, -, a6, a7⟩ := hL.2.2.2.1 k q1.1.1 q1.1.2
    rw [q1.2.1] at a7
    rw [q2]
    exact ⟨a6, a7⟩
theorem slo_b {c t r : Int} (hW : gW μ) (hL : gL μ) (h : slo μ c t r) : -1 ≤ r ∧ r < 120 := by
  have hb := hW.1.1
  by_cases q : r = -1
  · omega
  · have := (slo_w hL h q).1; omega
def xL (μ m : xMem) : Prop := m 55 = μ 55 ∧ m 56 = μ 56 ∧ m 57 = μ 57 ∧ m 54 2 = μ 54 2
theorem xL.of {S : List Nat} {T : List (Nat × Int)} (hf : FrX S T μ m) (hd : dj [55, 56, 57] [(54, 2)] S T = true) : xL μ m := ⟨hf.a hd (by decide), hf.a hd (by decide), hf.a hd (by decide), hf.b hd (by decide)⟩
theorem s_solutionOf {c t : Int} (hW : gW μ) (hL : gL μ) (hx : xL μ m) (hc : iR c) (ht : iR t) (h : ∀ r, slo μ c t r → P r m) : CI G l (d + 3) mX2_solutionOf [xr G 46, xi c, xi t] m P := by
  obtain ⟨b1, b2, b3, b4, b5⟩ := id hL
  obtain ⟨x55, x56, x57, x54⟩ := id hx
  have hb := hW.1.1
  apply E_X2_solutionOf
  refine s_latest log54 (by rw [x54, b1]; omega) hc ht (fun i i0 i1 => by rw [x55]; exact (b3 i i0 i1).1) (fun i i0 i1 => by rw [x56]; exact (b3 i i0 i1).2) (fun i j i0 ij j1 => ?_) (fun r hr => ?_)
  · rw [x54, b1] at j1
    rw [x55, (b4 i i0 (by omega)).1, (b4 j (by omega) j1).1]
    exact b5 i j i0 ij j1
  · rw [x54, b1, x55, x56] at hr
    rcases hr with ⟨q1, q2⟩ | ⟨q1, q2, q3, q4, q5⟩
    · refine ⟨fun z => absurd q1 z, fun _ => h (-1) (Or.inl ⟨rfl, fun k q => ?_⟩)⟩
      obtain ⟨⟨y1, y2⟩, y3, y4, y5⟩ := q
      have k' := b4 k y1 y2
      exact q2 k y1 y2 (by rw [k'.1]; exact y4) (by rw [k'.2.2.1]; exact y3)
    · have k := b4 r q1 q2
      refine ⟨fun _ => ?_, fun z => by omega⟩
      rw [x57, k.2.2.2.2.1]
      refine ⟨by omega, by have := k.2.2.2.2.2.1; omega, h _ (Or.inr ⟨r, ⟨⟨q1, q2⟩, by rw [← k.2.2.1]; exact q4, by rw [← k.1]; exact q3, fun j j0 j1 j2 => ?_⟩, rfl⟩)⟩
      have kj := b4 j (by omega) j1
      rw [← kj.2.2.1]
      exact q5 j j0 j1 (by rw [kj.1]; exact j2)
theorem s_mSolutionOf {c t : Int} (hW : gW μ) (hL : gL μ) (e67 : m 74 67 = μ 74 67) (e114 : m 114 = μ 114) (e115 : m 115 = μ 115) (e116 : m 116 = μ 116) (hc : iR c) (ht : iR t) (h : ∀ r, slo μ c t r → P r m) : CI G l (d + 1) mX12_solutionOf [xr G 74, xi c, xi t] m P := by
  obtain ⟨b1, b2, b3, b4, b5⟩ := id hL
  have hb := hW.1.1
  apply E_X12_solutionOf
  have main : ∀ (n : Nat) (v r : Int), v + n = μ 74 67 → 0 ≤ v → (r = -1 ∧ ∀ k, 0 ≤ k → k < v → μ 116 k ≤ t → μ 114 k ≠ c) ∨ (∃ j, (0 ≤ j ∧ j < v) ∧ μ 114 j = c ∧ μ 116 j ≤ t ∧ r = μ 115 j ∧ ∀ k, j < k → k < v → μ 116 k ≤ t → μ 114 k ≠ c) → K_X12_solutionOf_5 G l (d + 1) P c t r v m := by
    intro n
    induction n with
    | zero =>
      intro v r hv v0 hi
      apply B_X12_solutionOf_5
      rw [e67]
      have rb : iR r := by
        rcases hi with q | ⟨j, q1, _, _, q4, _⟩
        · have := q.1; omega
        · have := (b4 j q1.1 (by omega)).2.2.2.2.2.1; omega
      refine ⟨by omega, by omega, fun _ => ⟨rb, h r ?_⟩, fun z => by omega⟩
      rcases hi with ⟨q1, q2⟩ | ⟨j, q1, q2, q3, q4, q5⟩
      · exact Or.inl ⟨q1, fun k q => q2 k q.1.1 (by have := q.1.2; omega) q.2.2.1 q.2.1⟩
      · exact Or.inr ⟨j, ⟨⟨q1.1, by omega⟩, q2, q3, fun k k0 k1 => q5 k k0 (by omega)⟩, q4⟩
    | succ n ih =>
      intro v r hv v0 hi
      obtain ⟨d1, d2, d3, d4, d5, d6, d7⟩ := b4 v v0 (by omega)
      have d9 := b3 v v0 (by omega)
      have no : ¬ (μ 114 v = c ∧ μ 116 v ≤ t) → K_X12_solutionOf_5 G l (d + 1) P c t r (v + 1) m := by
        intro hn
        refine ih (v + 1) r (by omega) (by omega) ?_
        rcases hi with ⟨q1, q2⟩ | ⟨j, q1, q2, q3, q4, q5⟩
        · refine Or.inl ⟨q1, fun k k0 k1 k2 k3 => ?_⟩
          rcases (show k < v ∨ k = v by omega) with y | y
          · exact q2 k k0 y k2 k3
          · rw [y] at k2 k3; exact hn ⟨k3, k2⟩
        · refine Or.inr ⟨j, by omega, q2, q3, q4, fun k k0 k1 k2 k3 => ?_⟩
          rcases (show k < v ∨ k = v by omega) with y | y
          · exact q5 k k0 y k2 k3
          · rw [y] at k2 k3; exact hn ⟨k3, k2⟩
      apply B_X12_solutionOf_5
      rw [e67, e114, e115, e116]
      refine ⟨by omega, by omega, fun z => by omega, fun _ => ⟨by omega, by omega, hc, fun z => no (fun q => z q.1), fun z => ⟨by rw [← d1]; exact d9.1, ht, fun z2 => no (fun q => by have := q.2; omega), fun z2 => ih (v + 1) (μ 115 v) (by omega) (by omega) (Or.inr ⟨v, by omega, z, z2, rfl, fun k k0 k1 => by omega⟩)⟩⟩⟩
  exact main (μ 74 67).toNat 0 (-1) (by omega) (by omega) (Or.inl ⟨rfl, fun k k0 k1 => by omega⟩)
theorem s_has {c w : Int} (hW : gW α) (hA : MA α m) (e41 : z 41 = m 41) (e42 : z 42 = m 42) (hc : 0 ≤ c ∧ c < 16) (hl : lok m c t) (hw : iR w) (h : ∀ r, bit r (pos α c w t) → P r z) : CI G l (d + 2) mX6_has [xr G 40, xi c, xi w] z P := by
  have hb := hW.1.1
  have e20 : m 74 20 = α 74 20 := hA.2 20 (by decide) (by decide)
  obtain ⟨l1, l2, l3, l4⟩ := hl
  apply E_X6_has
  have main : ∀ (n : Nat) (v : Int), v + n = m 42 c → 0 ≤ v → (∀ i, 0 ≤ i → i < v → m 41 (c * 120 + i) ≠ w) → K_X6_has_2 G l (d + 2) P c w v z := by
    intro n
    induction n with
    | zero =>
      intro v hv v0 hi
      apply B_X6_has_2
      rw [e42]
      refine ⟨hc, by omega, by omega, fun _ => h 0 (Or.inr ⟨rfl, fun q => ?_⟩), fun q => by omega⟩
      rw [← pos_eq hA] at q
      obtain ⟨i, i0, i1, i2⟩ := (l4 w).mpr q
      exact hi i i0 (by omega) i2
    | succ n ih =>
      intro v hv v0 hi
      have lr := l3 v v0 (by omega)
      apply B_X6_has_2
      rw [e42]
      refine ⟨hc, by omega, by omega, fun q => by omega, fun _ => ?_⟩
      apply E_X6_wordAt
      rw [e41]
      refine ⟨by omega, by omega, hw, fun q => ih (v + 1) (by omega) (by omega) (fun i i0 i1 => ?_), fun q => h 1 (Or.inl ⟨rfl, ?_⟩)⟩
      · rcases (show i < v ∨ i = v by omega) with q2 | q2
        · exact hi i i0 q2
        · rw [q2]; exact q
      · rw [← pos_eq hA]; exact (l4 w).mp ⟨v, v0, by omega, q⟩
  exact main (m 42 c).toNat 0 (by omega) (by omega) (fun i i0 i1 => by omega)
def alk (α : xMem) (c v s : Int) : Prop := ∀ o k k', crs α c o k k' → lt α v k = lt α s k
def rvl (α : xMem) (t c s : Int) : Prop := ∃ v, pos α c v t ∧ v ≠ s ∧ alk α c v s
def qrl (α : xMem) (t c s : Int) : Prop := ∃ o k k' so, crs α c o k k' ∧ slo α o t so ∧ so ≠ -1 ∧ lt α s k ≠ lt α so k'
theorem s_xAlike {c v s : Int} (hG : gG α) (hW : gW α) (hx : xG' α z) (hc : lit α c) (hv : (0 ≤ v ∧ v < α 74 20) ∧ α 77 v = α 89 c) (hs : (0 ≤ s ∧ s < α 74 20) ∧ α 77 s = α 89 c) (h : ∀ r, bit r (alk α c v s) → P r z) : CI G l (d + 2) mX1_isAlikeWhereCrossed [xr G 64, xi c, xi v, xi s] z P := by
  have c0 := hc.1
  have c1 := hc.2.1
  apply E_X1_isAlikeWhereCrossed
  have main : ∀ (n : Nat) (o : Int), o + n = 16 → 0 ≤ o → (∀ o' k k', o' < o → crs α c o' k k' → lt α v k = lt α s k) → K_X1_isAlikeWhereCrossed_3 G l (d + 2) P c v s o z := by
    intro n
    induction n with
    | zero =>
      intro o ho o0 hi
      apply B_X1_isAlikeWhereCrossed_3
      exact ⟨by omega, fun _ => h 1 (Or.inl ⟨rfl, fun o' k k' q => hi o' k k' (by have := q.2.1.2.1; omega) q⟩), fun q => by omega⟩
    | succ n ih =>
      intro o ho o0 hi
      have nx : (∀ k k', crs α c o k k' → lt α v k = lt α s k) → K_X1_isAlikeWhereCrossed_3 G l (d + 2) P c v s (o + 1) z := fun hq => ih (o + 1) (by omega) (by omega) (fun o' k k' h1 q => by
        rcases (show o' < o ∨ o' = o by omega) with q2 | q2
        · exact hi o' k k' q2 q
        · subst q2; exact hq k k' q)
      apply B_X1_isAlikeWhereCrossed_3
      refine ⟨by omega, fun q => by omega, fun _ => s_crossingOf hG hx ⟨c0, c1⟩ ⟨o0, by omega⟩ (fun r4 g4 => ⟨fun q => nx (fun k k' q2 => ?_), fun q => ?_⟩)⟩
      · rcases g4 with g | g
        · exact absurd q2 (g.2 k k')
        · exact absurd q g.1
      · obtain ⟨k4, c4⟩ : ∃ k', crs α c o r4 k' := by
          rcases g4 with g | g
          · exact absurd g.1 q
          · exact g.2
        have b4 := c4.2.2.2.1
        refine s_letterAt hW hx hv.1 b4.1 (by omega) (s_letterAt hW hx hs.1 b4.1 (by omega) ⟨fun q2 => nx (fun k k' q3 => ?_), fun q2 => h 0 (Or.inr ⟨rfl, fun q3 => q2 (q3 o r4 k4 c4)⟩)⟩)
        rw [(crs_uniq hG.1 q3 c4).1]; exact q2
  exact main 16 0 (by omega) (by omega) (fun o' k k' h1 q => by have := q.2.1.1; omega)
theorem s_hasRival {c s : Int} (hG : gG α) (hW : gW α) (hx : xG' α z) (hA : MA α m) (e41 : z 41 = m 41) (e42 : z 42 = m 42) (hc : lit α c) (hl : lok m c t) (hs : (0 ≤ s ∧ s < α 74 20) ∧ α 77 s = α 89 c) (h : ∀ r, bit r (rvl α t c s) → P r z) : CI G l (d + 3) mX1_hasRival [xr G 64, xi c, xi s] z P := by
  have hb := hW.1.1
  have e20 : m 74 20 = α 74 20 := hA.2 20 (by decide) (by decide)
  have c0 := hc.1
  have c1 := hc.2.1
  obtain ⟨l1, l2, l3, l4⟩ := id hl
  apply E_X1_hasRival
  have main : ∀ (n : Nat) (v : Int), v + n = m 42 c → 0 ≤ v → (∀ i, 0 ≤ i → i < v → ¬ (m 41 (c * 120 + i) ≠ s ∧ alk α c (m 41 (c * 120 + i)) s)) → K_X1_hasRival_2 G l (d + 3) P c s v z := by
    intro n
    induction n with
    | zero =>
      intro v hv v0 hi
      apply B_X1_hasRival_2
      rw [e42]
      refine ⟨⟨c0, c1⟩, by omega, by omega, fun _ => h 0 (Or.inr ⟨rfl, fun ⟨x, x1, x2, x3⟩ => ?_⟩), fun q => by omega⟩
      rw [← pos_eq hA] at x1
      obtain ⟨i, i0, i1, i2⟩ := (l4 x).mpr x1
      exact hi i i0 (by omega) ⟨by rw [i2]; exact x2, by rw [i2]; exact x3⟩
    | succ n ih =>
      intro v hv v0 hi
      have lr := l3 v v0 (by omega)
      have hp : pos α c (m 41 (c * 120 + v)) t := by rw [← pos_eq hA]; exact (l4 _).mp ⟨v, v0, by omega, rfl⟩
      have nx : ¬ (m 41 (c * 120 + v) ≠ s ∧ alk α c (m 41 (c * 120 + v)) s) → K_X1_hasRival_2 G l (d + 3) P c s (v + 1) z := fun hq => ih (v + 1) (by omega) (by omega) (fun i i0 i1 => by
        rcases (show i < v ∨ i = v by omega) with q2 | q2
        · exact hi i i0 q2
        · rw [q2]; exact hq)
      apply B_X1_hasRival_2
      rw [e42]
      refine ⟨⟨c0, c1⟩, by omega, by omega, fun q => by omega, fun _ => ?_⟩
      apply E_X6_wordAt
      rw [e41]
      refine ⟨by omega, by omega, by omega, fun q => nx (fun q2 => q2.1 q), fun q => s_xAlike hG hW hx hc (pos_w hp) hs (fun r11 g11 => ⟨fun q2 => nx (fun q3 => (bit0 g11).mp q2 q3.2), fun q2 => h 1 (Or.inl ⟨rfl, _, hp, q, (bitne g11).mp q2⟩)⟩)⟩
  exact main (m 42 c).toNat 0 (by omega) (by omega) (fun i i0 i1 => by omega)
/-- how many cells of c are another light's too -/
noncomputable def crN (α : xMem) (c : Int) : Int := cntW (fun o => ∃ k k', crs α c o k k') 16
theorem match_cnt {R : Int → Int → Prop} (h1 : ∀ o k k', R o k → R o k' → k = k') (h2 : ∀ o o' k, R o k → R o' k → o = o') (m : Nat) (hm : ∀ o k, R o k → 0 ≤ k ∧ k < m) : ∀ n : Nat, cntW (fun o => ∃ k, R o k) n = cntW (fun k => ∃ o, (0 ≤ o ∧ o < (n : Int)) ∧ R o k) m
  | 0 => by rw [cntW]; exact (cntW_0 m (fun v _ _ ⟨o, q, _⟩ => by omega)).symm
  | n + 1 => by
    rw [cntW, match_cnt h1 h2 m hm n]
    by_cases q : ∃ k, R n k
    · obtain ⟨k0, hk0⟩ := q
      have hb := hm n k0 hk0
      have e := cntW_one (p := fun k => ∃ o, (0 ≤ o ∧ o < (n : Int)) ∧ R o k) hb.1 (fun ⟨o, q1, q2⟩ => by have := h2 o n k0 q2 hk0; omega) m
      rw [if_pos hb.2] at e
      rw [ind_t ⟨k0, hk0⟩, ← e]
      refine cntW_congr m (fun v v0 v1 => ⟨?_, ?_⟩)
      · rintro (⟨o, q1, q2⟩ | q1)
        · exact ⟨o, by omega, q2⟩
        · exact ⟨n, by omega, by rw [q1]; exact hk0⟩
      · rintro ⟨o, q1, q2⟩
        rcases (show o < (n : Int) ∨ o = (n : Int) by omega) with q3 | q3
        · exact Or.inl ⟨o, by omega, q2⟩
        · rw [q3] at q2; exact Or.inr (h1 n v k0 q2 hk0)
    · rw [ind_f q, Int.add_zero]
      refine cntW_congr m (fun v v0 v1 => ⟨fun ⟨o, q1, q2⟩ => ⟨o, by omega, q2⟩, fun ⟨o, q1, q2⟩ => ?_⟩)
      rcases (show o < (n : Int) ∨ o = (n : Int) by omega) with q3 | q3
      · exact ⟨o, by omega, q2⟩
      · rw [q3] at q2; exact absurd ⟨v, q2⟩ q
theorem crN_eq {c : Int} (hw : wfG α) (hl : 0 ≤ α 89 c) : crN α c = cntW (fun k => ∃ o k', crs α c o k k') (α 89 c).toNat := by
  have e := match_cnt (R := fun o k => ∃ k', crs α c o k k') (fun o k k2 ⟨a, ha⟩ ⟨b, hb⟩ => (crs_uniq hw ha hb).1) (fun o o' k ⟨a, ha⟩ ⟨b, hb⟩ => ?_) (α 89 c).toNat (fun o k ⟨a, ha⟩ => by have := ha.2.2.2.1; omega) 16
  · unfold crN
    rw [e]
    exact cntW_congr _ (fun k _ _ => ⟨fun ⟨o, _, q⟩ => ⟨o, q⟩, fun ⟨o, k', q⟩ => ⟨o, ⟨q.2.1.1, q.2.1.2.1⟩, k', q⟩⟩)
  · rcases shared hw ha.2.1 hb.2.1 ha.2.2.2.2.1 hb.2.2.2.2.1 (ha.2.2.2.2.2.symm.trans hb.2.2.2.2.2) with q | q
    · exact q.1
    · have d0 := (hw.1 c ha.1.1 ha.1.2.1).2
      have d1 := (hw.1 o ha.2.1.1 ha.2.1.2.1).2
      have d2 := (hw.1 o' hb.2.1.1 hb.2.1.2.1).2
      have := ha.2.2.1
      have := hb.2.2.1
      have := q.2.2.1
      omega
theorem s_crossed {c : Int} (hG : gG α) (hx : xG' α z) (hc : lit α c) (h : P (crN α c) z) : CI G l (d + 2) mX1_crossed [xr G 64, xi c] z P := by
  have c0 := hc.1
  have c1 := hc.2.1
  apply E_X1_crossed
  have main : ∀ (n k : Nat), k + n = 16 → K_X1_crossed_4 G l (d + 2) P c (cntW (fun o => ∃ k k', crs α c o k k') k) (k : Int) z := by
    intro n
    induction n with
    | zero =>
      intro k hk
      have b := cntW_le (p := fun o => ∃ k k', crs α c o k k') k
      apply B_X1_crossed_4
      have e : k = 16 := by omega
      subst e
      exact ⟨by decide, fun _ => ⟨by omega, h⟩, fun q => absurd q (by decide)⟩
    | succ n ih =>
      intro k hk
      have hi := ih (k + 1) (by omega)
      rw [cntW, show ((k + 1 : Nat) : Int) = (k : Int) + 1 by omega] at hi
      apply B_X1_crossed_4
      refine ⟨by omega, fun q => by omega, fun _ => s_crossingOf hG hx ⟨c0, c1⟩ ⟨by omega, by omega⟩ (fun r5 g5 => ⟨fun q => ?_, fun q => ?_⟩)⟩
      · rw [ind_f, Int.add_zero] at hi
        · exact hi
        · rcases g5 with g | g
          · exact fun ⟨a, b, q2⟩ => g.2 a b q2
          · exact absurd q g.1
      · rw [ind_t] at hi
        · exact hi
        · rcases g5 with g | g
          · exact absurd g.1 q
          · exact ⟨r5, g.2⟩
  exact main 16 0 (by omega)
theorem s_clashes {c s : Int} (hG : gG α) (hW : gW α) (hL : gL α) (hx : xG' α z) (hxl : xL α z) (ht : iR t) (hc : lit α c) (hs : (0 ≤ s ∧ s < α 74 20) ∧ α 77 s = α 89 c) (h : ∀ r, bit r (qrl α t c s) → P r z) : CI G l (d + 4) mX1_clashes [xr G 64, xi c, xi s, xi t] z P := by
  have c0 := hc.1
  have c1 := hc.2.1
  apply E_X1_clashes
  have main : ∀ (n : Nat) (o : Int), o + n = 16 → 0 ≤ o → (∀ o' k k' so, o' < o → crs α c o' k k' → slo α o' t so → so ≠ -1 → lt α s k = lt α so k') → K_X1_clashes_3 G l (d + 4) P c s t o z := by
    intro n
    induction n with
    | zero =>
      intro o ho o0 hi
      apply B_X1_clashes_3
      exact ⟨by omega, fun _ => h 0 (Or.inr ⟨rfl, fun ⟨o', k, k', so, q1, q2, q3, q4⟩ => q4 (hi o' k k' so (by have := q1.2.1.2.1; omega) q1 q2 q3)⟩), fun q => by omega⟩
    | succ n ih =>
      intro o ho o0 hi
      have nx : (∀ k k' so, crs α c o k k' → slo α o t so → so ≠ -1 → lt α s k = lt α so k') → K_X1_clashes_3 G l (d + 4) P c s t (o + 1) z := fun hq => ih (o + 1) (by omega) (by omega) (fun o' k k' so h1 q => by
        rcases (show o' < o ∨ o' = o by omega) with q2 | q2
        · exact hi o' k k' so q2 q
        · subst q2; exact hq k k' so q)
      apply B_X1_clashes_3
      refine ⟨by omega, fun q => by omega, fun _ => s_crossingOf hG hx ⟨c0, c1⟩ ⟨o0, by omega⟩ (fun r4 g4 => ⟨fun q => ?_, fun q => ?_⟩)⟩
      · obtain ⟨k4, c4⟩ : ∃ k', crs α c o r4 k' := by
          rcases g4 with g | g
          · exact absurd g.1 q
          · exact g.2
        have b4 := c4.2.2.2.1
        have bk := c4.2.2.2.2.1
        refine s_solutionOf hW hL hxl (by omega) ht (fun r8 h8 => ?_)
        have rb := slo_b hW hL h8
        apply B_X1_clashes_42
        refine ⟨by omega, fun q2 => nx (fun k k' so q3 q4 q5 => absurd (by rw [slo_u q4 h8]; exact q2) q5), fun q2 => ?_⟩
        have sw := slo_w hL h8 q2
        refine s_letterAt hW hx hs.1 b4.1 (by omega) (s_crossingOf hG hx ⟨o0, by omega⟩ ⟨c0, c1⟩ (fun r6 g6 => ?_))
        have e6 : r6 = k4 := by
          rcases g6 with g | ⟨_, k2, g⟩
          · exact absurd (crs_symm c4) (g.2 _ _)
          · exact (crs_uniq hG.1 g (crs_symm c4)).1
        rw [e6]
        refine s_letterAt hW hx sw.1 bk.1 (by omega) ⟨fun q3 => nx (fun k k' so q4 q5 q6 => ?_), fun q3 => h 1 (Or.inl ⟨rfl, o, r4, k4, r8, c4, h8, q2, q3⟩)⟩
        obtain ⟨u1, u2⟩ := crs_uniq hG.1 q4 c4
        rw [u1, u2, slo_u q5 h8]; exact q3
      · have no : ∀ k k', ¬ crs α c o k k' := by
          rcases g4 with g | g
          · exact g.2
          · exact absurd q g.1
        apply B_X1_clashes_42
        exact ⟨by decide, fun _ => nx (fun k k' so q2 => absurd q2 (no k k')), fun q2 => absurd rfl q2⟩
  exact main 16 0 (by omega) (by omega) (fun o' k k' so h1 q => by have := q.2.1.1; omega)
/-- what is told -/
noncomputable def cl' (p : Prop) (x : Int × Int) : List (Int × Int) := cite p [x] []
noncomputable def n1' (α : xMem) (t c s : Int) : List (Int × Int) := cl' (s = -1) (1, c)
noncomputable def n2' (α : xMem) (t c s : Int) : List (Int × Int) := cl' (s ≠ -1 ∧ ¬ pos α c s t) (2, c)
noncomputable def n3' (α : xMem) (t c s : Int) : List (Int × Int) := cl' (s ≠ -1 ∧ rvl α t c s) (3, c)
noncomputable def n4' (α : xMem) (c : Int) : List (Int × Int) := cl' (2 * crN α c < α 89 c) (4, c)
noncomputable def n5' (α : xMem) (t c s : Int) : List (Int × Int) := cl' (s ≠ -1 ∧ qrl α t c s) (5, c)
theorem cl_len {p : Prop} {x : Int × Int} : (cl' p x).length ≤ 1 := by
  unfold cl'
  rcases Classical.em p with h | h
  · rw [cite_t h]; simp
  · rw [cite_f h]; simp
/-- the lists of two arrays -/
def TL (k1 k2 : Nat) (z : xMem) (n : Int) (L : List (Int × Int)) : Prop := n = L.length ∧ ∀ i : Nat, i < L.length → z k1 i = (L.getD i (0, 0)).1 ∧ z k2 i = (L.getD i (0, 0)).2
theorem TL.app {k1 k2 : Nat} {n a b : Int} {L : List (Int × Int)} (h : TL k1 k2 z n L) (hn : k1 ≠ k2) : TL k1 k2 (st2 (st2 z k1 n a) k2 n b) (n + 1) (L ++ [(a, b)]) := by
  refine ⟨by rw [h.1]; simp, fun i hi => ?_⟩
  have hl := h.1
  simp at hi
  rw [st_n _ _ _ _ _ _ hn, st_i, st_i, st_n _ _ _ _ _ _ hn.symm]
  by_cases q : i = L.length
  · rw [if_pos (by omega), if_pos (by omega), q]
    simp
  · rw [if_neg (by omega), if_neg (by omega)]
    have := h.2 i (by omega)
    rw [List.getD_eq_getElem?_getD, List.getElem?_append_left (by omega), ← List.getD_eq_getElem?_getD]
    exact this
theorem s_noteIf {b k c : Int} {L : List (Int × Int)} {p : Prop} (hb : bit b p) (hL : TL 65 66 z (z 64 5) L) (hl : L.length < 80) (h : ∀ z', FrX [65, 66] [(64, 5)] z z' → TL 65 66 z' (z' 64 5) (L ++ cl' p (k, c)) → PV' z') : CV G l (d + 1) mX1_noteIf [xr G 64, xi b, xi k, xi c] z PV' := by
  have e := hL.1
  apply E_X1_noteIf
  refine ⟨by rcases hb with q | q <;> omega, fun q => h z FrX.rf ?_, fun q => ⟨by omega, fun q2 => by omega, fun _ => ⟨by omega, h _ (((FrX.sa (k := 65)).tr ((FrX.sa (k := 66)).tr (FrX.st (k := 64) (i := 5)))).sub (by decide) (by decide)) ?_⟩⟩⟩
  · unfold cl'
    rw [cite_f ((bit0 hb).mp q), List.append_nil]
    exact hL
  · unfold cl'
    rw [cite_t ((bitne hb).mp q), st_s]
    have := hL.app (a := k) (b := c) (by decide)
    refine ⟨this.1, fun i hi => ?_⟩
    rw [st_n _ _ _ _ _ _ (by decide), st_n _ _ _ _ _ _ (by decide)]
    exact this.2 i hi
theorem s_note {k c : Int} {L : List (Int × Int)} (hL : TL 124 125 z (z 74 76) L) (hl : L.length < 80) (h : ∀ z', FrX [124, 125] [(74, 76)] z z' → TL 124 125 z' (z' 74 76) (L ++ [(k, c)]) → PV' z') : CV G l (d + 1) mX12_note [xr G 74, xi k, xi c] z PV' := by
  have e := hL.1
  apply E_X12_note
  refine ⟨by omega, h _ (((FrX.sa (k := 124)).tr ((FrX.sa (k := 125)).tr (FrX.st (k := 74) (i := 76)))).sub (by decide) (by decide)) ?_⟩
  rw [st_s]
  have := hL.app (a := k) (b := c) (by decide)
  refine ⟨this.1, fun i hi => ?_⟩
  rw [st_n _ _ _ _ _ _ (by decide), st_n _ _ _ _ _ _ (by decide)]
  exact this.2 i hi
end Unfair
