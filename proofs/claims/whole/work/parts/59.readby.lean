/-! Reader: a clue by an answer -/
section SpecReadBy
variable {G : xG} {l : Launch} {d : Nat} {μ ν ν' α : xMem} {P : Int → xMem → Prop} {PV' : xMem → Prop} {tl w t : Int}
def wu1 (O : xO) (n fr ba : Int) : Tri := (fr * ba * (if n = 2 then 1 else if n = 3 then O.2.2.2.1 1 9 else 0), 2, [29, 12] ++ (nLnk (if n = 3 then 1 else -1) ++ [11, 29, 12 + (n - 1)]))
def wu2 (O : xO) (n fr : Int) : Tri := (fr * (RV O 0 1 (n - 1) 0 O.2.2.2.2).1, 1 + (RV O 0 1 (n - 1) 0 O.2.2.2.2).2.1, [29, 12, 11] ++ (RV O 0 1 (n - 1) 0 O.2.2.2.2).2.2)
def wu3 (O : xO) (n fr : Int) : Tri := (fr * (if 3 ≤ n then O.2.2.2.1 1 9 else 0) * (RV O 0 2 (n - 1) 0 O.2.2.2.2).1, 1 + (RV O 0 2 (n - 1) 0 O.2.2.2.2).2.1, [29, 12, 11] ++ ([27, 13] ++ (RV O 0 2 (n - 1) 0 O.2.2.2.2).2.2))
def wu4 (O : xO) (n ba : Int) : Tri := (ba * (RV O 0 0 (n - 2) 0 O.2.2.2.2).1, 1 + (RV O 0 0 (n - 2) 0 O.2.2.2.2).2.1, (RV O 0 0 (n - 2) 0 O.2.2.2.2).2.2 ++ [11, 29, 12 + (n - 1)])
def wu5 (O : xO) (n ba : Int) : Tri := (ba * (if 3 ≤ n then O.2.2.2.1 (n - 2) 9 else 0) * (RV O 0 0 (n - 3) 0 O.2.2.2.2).1, 1 + (RV O 0 0 (n - 3) 0 O.2.2.2.2).2.1, (RV O 0 0 (n - 3) 0 O.2.2.2.2).2.2 ++ ([27, 12 + (n - 2)] ++ [11, 29, 12 + (n - 1)]))
theorem whole_eq (O : xO) (n fr ba : Int) : whole O n fr ba = mg (mg (mg (mg (mg T0 (wu1 O n fr ba)) (wu2 O n fr)) (wu3 O n fr)) (wu4 O n ba)) (wu5 O n ba) := rfl
theorem lnk_ok {k : Int} (h : -1 ≤ k ∧ k ≤ 19) : okN (nLnk k) := by
  unfold nLnk
  split
  · exact okN_nil
  · exact okN_cons (by omega) (ok1 (by omega))
theorem lnk_len {k : Int} : (nLnk k).length ≤ 2 := by
  unfold nLnk
  split <;> simp
theorem v_wu {O : xO} (hO : okO O) {n fr ba : Int} (hn : 2 ≤ n ∧ n ≤ 8) (hf : 0 ≤ fr) (hb : 0 ≤ ba) : vW 8 (wu1 O n fr ba) ∧ vW 8 (wu2 O n fr) ∧ vW 8 (wu3 O n fr) ∧ vW 8 (wu4 O n ba) ∧ vW 8 (wu5 O n ba) := by
  have hsg := hO.2.2.2.1
  have hk : okN [11, 29, 12 + (n - 1)] := okN_cons (by omega) (okN_cons (by omega) (ok1 (by omega)))
  have hr : ∀ i j, 0 ≤ i → j ≤ 7 → vW (j - i + 1) (RV O 0 i j 0 O.2.2.2.2) := fun i j h1 h2 => v_RV hO h1 h2 (Int.le_refl _) (Int.le_refl _)
  have s3 : ∀ p, 0 ≤ (if 3 ≤ n then O.2.2.2.1 p 9 else 0) := fun p => by split; exact hsg _ _; exact Int.le_refl _
  refine ⟨⟨?_, fun _ => ?_⟩, ⟨Int.mul_nonneg hf (hr _ _ (by omega) (by omega)).1, fun z => ?_⟩, ⟨Int.mul_nonneg (Int.mul_nonneg hf (s3 _)) (hr _ _ (by omega) (by omega)).1, fun z => ?_⟩, ⟨Int.mul_nonneg hb (hr _ _ (by omega) (by omega)).1, fun z => ?_⟩, ⟨Int.mul_nonneg (Int.mul_nonneg hb (s3 _)) (hr _ _ (by omega) (by omega)).1, fun z => ?_⟩⟩
  · refine Int.mul_nonneg (Int.mul_nonneg hf hb) ?_
    split
    · decide
    · split
      · exact hsg _ _
      · decide
  · refine ⟨okN_app (okN_cons (by omega) (ok1 (by omega))) (okN_app ?_ hk), ?_, show (0 : Int) ≤ 2 by decide, show (2 : Int) ≤ 2 * 8 by decide⟩
    · exact lnk_ok (by split <;> omega)
    · have := lnk_len (k := if n = 3 then 1 else -1)
      simp only [wu1]
      simp
      omega
  · obtain ⟨r1, r2, r3, r4⟩ := (hr 1 (n - 1) (by omega) (by omega)).2 (mul_nz z).2
    refine ⟨okN_app (okN_cons (by omega) (okN_cons (by omega) (ok1 (by omega)))) r1, ?_, by simp only [wu2]; omega, by simp only [wu2]; omega⟩
    simp only [wu2]
    simp
    omega
  · obtain ⟨r1, r2, r3, r4⟩ := (hr 2 (n - 1) (by omega) (by omega)).2 (mul_nz z).2
    refine ⟨okN_app (okN_cons (by omega) (okN_cons (by omega) (ok1 (by omega)))) (okN_app (okN_cons (by omega) (ok1 (by omega))) r1), ?_, by simp only [wu3]; omega, by simp only [wu3]; omega⟩
    simp only [wu3]
    simp
    omega
  · obtain ⟨r1, r2, r3, r4⟩ := (hr 0 (n - 2) (by omega) (by omega)).2 (mul_nz z).2
    refine ⟨okN_app r1 hk, ?_, by simp only [wu4]; omega, by simp only [wu4]; omega⟩
    simp only [wu4]
    simp
    omega
  · obtain ⟨r1, r2, r3, r4⟩ := (hr 0 (n - 3) (by omega) (by omega)).2 (mul_nz z).2
    have n3 : 3 ≤ n := by
      by_cases c : 3 ≤ n
      · exact c
      · exact absurd (if_neg c) (mul_nz (mul_nz z).1).2
    refine ⟨okN_app r1 (okN_app (okN_cons (by omega) (ok1 (by omega))) hk), ?_, by simp only [wu5]; omega, by simp only [wu5]; omega⟩
    simp only [wu5]
    simp
    omega
theorem s_addTwo {n : Int} (hE : cl_Env α tl w t μ) (hn : n = α 87 tl) (hH : Hd μ 7920 T0) (h : ∀ μ', FrQ 7920 μ μ' → Hd μ' 7920 (mg T0 (wu1 (Orc α tl w t) n 1 1)) → PV' μ') : CV G l (d + 5) mX8_addTwo [xr G 26, xi (n - 1)] μ PV' := by
  have ht := hE.2.2.2.2.1.2.1
  obtain ⟨h1, h2, h3, h4, h5, h6, h7⟩ := id hE
  have go : (n = 2 ∨ n = 3) → wu1 (Orc α tl w t) n 1 1 = (1, 2, [29, 12] ++ (nLnk (if n = 3 then 1 else -1) ++ [11, 29, 12 + (n - 1)])) → K_X8_addTwo_24 G l (d + 5) PV' (n - 1) μ := by
    intro hn2 hw
    rw [hw] at h
    have hv : okN ([29, 12] ++ (nLnk (if n = 3 then 1 else -1) ++ [11, 29, 12 + (n - 1)])) := by
      refine okN_app (okN_cons (by omega) (ok1 (by omega))) (okN_app ?_ (okN_cons (by omega) (okN_cons (by omega) (ok1 (by omega)))))
      exact lnk_ok (by split <;> omega)
    apply B_X8_addTwo_24
    refine s_offer (u := ((1 : Int), 2, [29, 12] ++ (nLnk (if n = 3 then 1 else -1) ++ [11, 29, 12 + (n - 1)]))) (by omega) h7.1 h7.2 ((vW_T0 1).T (by decide)) hH (by omega) (by simp only; omega) rfl (by decide) (fun _ => ⟨rfl, by simp only; omega⟩) (fun m1 f1 g1 => ⟨fun _ => h m1 f1 g1, fun y => absurd rfl y⟩) (fun m1 f1 g1 g2 => ⟨fun y => absurd y (by decide), fun _ => ?_⟩)
    have k65 : ∀ m2, Dr m2 ([] ++ [29, 12 + 0]) → FrD m1 m2 → ∀ x, x = (if n = 3 then 1 else -1) → K_X8_addTwo_65 G l (d + 5) PV' (n - 1) 2 x m2 := by
      intro m2 g3 f2 x hx
      apply B_X8_addTwo_65
      refine s_putLink g3 (by simp) (show -1 ≤ x ∧ x ≤ 19 by rw [hx]; split <;> omega) (fun m3 g4 f3 => s_put g4 ?_ (by omega) (fun m4 g5 f4 => s_putWord g5 ?_ (by omega) (by omega) (fun m5 g6 f5 => ?_)))
      · have := lnk_len (k := x)
        simp
        omega
      · have := lnk_len (k := x)
        simp
        omega
      · refine s_keep (u := ((1 : Int), 2, [29, 12] ++ (nLnk (if n = 3 then 1 else -1) ++ [11, 29, 12 + (n - 1)]))) (by omega) ((vW_T0 1).T (by decide)) (by simp only; omega) ⟨by simp only; omega, by simp only; omega⟩ rfl ?_ (g2.kept (f2.tr (f3.tr (f4.tr f5)))) (fun m6 f6 g7 => h m6 (f1.tr (f2.q.tr (f3.q.tr (f4.q.tr (f5.q.tr f6))))) g7)
        rw [← hx]
        simpa using g6
    refine s_putWord g1 (by simp) (by omega) (by omega) (fun m2 g3 f2 => ⟨by omega, fun z => k65 m2 g3 f2 _ (by rw [if_neg (by omega)]), fun z => k65 m2 g3 f2 _ (by rw [if_pos (by omega)])⟩)
  apply E_X8_addTwo
  refine ⟨by omega, fun z => ?_, fun z => ⟨fun z2 => go (by omega) ?_, fun z2 => s_isSign h5 (by omega) (by omega) (fun r hr => ⟨fun r0 => go (by omega) ?_, fun r0 => ?_⟩)⟩⟩
  · have h9 := h μ FrQ.rf
    rw [mg_0 _ _ (show (1 : Int) * 1 * (if n = 2 then 1 else if n = 3 then (Orc α tl w t).2.2.2.1 1 9 else 0) = 0 by rw [if_neg (by omega), if_neg (by omega)]; rfl)] at h9
    exact h9 hH
  · unfold wu1
    rw [if_pos (by omega)]
    rfl
  · unfold wu1
    rw [if_neg (by omega), if_pos (show n = 3 by omega), show (Orc α tl w t).2.2.2.1 1 9 = 1 from ind_t ((bitne hr).mp r0)]
    rfl
  · have h9 := h μ FrQ.rf
    rw [mg_0 _ _ (show (1 : Int) * 1 * (if n = 2 then 1 else if n = 3 then (Orc α tl w t).2.2.2.1 1 9 else 0) = 0 by rw [if_neg (by omega), if_pos (by omega), show (Orc α tl w t).2.2.2.1 1 9 = 0 from ind_f ((bit0 hr).mp r0)]; rfl)] at h9
    exact h9 hH
theorem s_restart {lim nm : Int} (hl : 1 ≤ lim ∧ lim ≤ 1000) (hn : nm = 0 ∨ nm = 1) (hS : StB μ) (hr : μ 27 6 + 1 < 2147483647) (h : ∀ ν, (∀ k i, (k < 27 ∨ 31 ≤ k) → ν k i = μ k i) → (∀ i, i ≠ 6 → i ≠ 7 → i ≠ 8 → ν 27 i = μ 27 i) → ν 27 6 = μ 27 6 + 1 → ν 27 7 = lim → ν 27 8 = nm → StB ν → (∀ q, 0 ≤ q → q < 7920 → ν 28 q ≠ ν 27 6) → ν 28 7920 = ν 27 6 → Hd ν 7920 T0 → Hd ν 7921 T0 → PV' ν) : CV G l (d + 2) mX5_restart [xr G 27, xi lim, xi nm] μ PV' := by
  apply E_X5_restart
  refine ⟨hn, s_open (by omega) (s_open (by omega) (h _ ?_ ?_ ?_ ?_ ?_ ?_ ?_ ?_ ?_ ?_))⟩
  · intro k i hk
    have n0 : k ≠ 27 := by omega
    have n1 : k ≠ 28 := by omega
    have n2 : k ≠ 29 := by omega
    have n3 : k ≠ 30 := by omega
    simp [st2, n0, n1, n2, n3]
  · intro i h6 h7 h8
    simp [st2, h6, h7, h8]
  · simp [st2]
  · simp [st2]
  · simp [st2]
  · refine ⟨by simp [st2]; have := hS.1; omega, fun q q0 q1 => ?_⟩
    have := hS.2 q q0 q1
    have := hS.1
    simp [st2]
    split
    · omega
    · split <;> omega
  · intro q q0 q1
    have := hS.2 q q0 (by omega)
    simp [st2]
    omega
  · simp [st2]
  · refine ⟨?_, fun _ => by simp [st2], fun _ => ⟨fun _ => by simp [st2], fun z => absurd rfl z⟩⟩
    simp [st2, T0, cap]
    omega
  · refine ⟨?_, fun _ => by simp [st2], fun _ => ⟨fun _ => by simp [st2], fun z => absurd rfl z⟩⟩
    simp [st2, T0, cap]
    omega
/-- what reading a clue by an answer may change -/
def FrB (μ ν : xMem) : Prop := ∀ k i, (k < 27 ∨ 33 ≤ k) → k ≠ 38 → k ≠ 39 → (k ≠ 33 ∨ (i ≠ 8 ∧ i ≠ 10)) → ν k i = μ k i
theorem rlW.keptB (h : rlW α μ) (hf : FrB μ ν) : rlW α ν := by
  refine ⟨by rw [hf 4 _ (by decide) (by decide) (by decide) (by simp)]; exact h.1, fun w a b => ?_⟩
  obtain ⟨h1, h2⟩ := h.2 w a b
  exact ⟨by rw [hf 14 _ (by decide) (by decide) (by decide) (by simp)]; exact h1, fun i x y => by rw [hf 13 _ (by decide) (by decide) (by decide) (by simp)]; exact h2 i x y⟩
theorem rlM.keptB (h : rlM α μ) (hf : FrB μ ν) : rlM α ν := by
  obtain ⟨h1, h2, h3⟩ := h
  refine ⟨by rw [hf 7 _ (by decide) (by decide) (by decide) (by simp)]; exact h1, fun a n x1 x2 x3 x4 => ?_, fun k x y => ?_⟩
  · rw [hf 15 _ (by decide) (by decide) (by decide) (by simp)]
    exact h2 a n x1 x2 x3 x4
  · rw [hf 17 _ (by decide) (by decide) (by decide) (by simp), hf 16 _ (by decide) (by decide) (by decide) (by simp)]
    exact h3 k x y
theorem shW.keptB (h : shW α tl t μ) (hf : FrB μ ν) : shW α tl t ν := by
  obtain ⟨h1, h2, h3, h4, h5, h6, h7⟩ := h
  have e6 := hf 33 6 (by decide) (by decide) (by decide) (by simp)
  refine ⟨by rw [hf 33 5 (by decide) (by decide) (by decide) (by simp)]; exact h1, h2, fun p x y => ?_, fun p x => ?_, fun p k x y z => ?_, by rw [e6]; exact h6, fun k x y => by rw [e6]; exact h7 k x y⟩
  · rw [hf 34 _ (by decide) (by decide) (by decide) (by simp), hf 35 _ (by decide) (by decide) (by decide) (by simp)]
    exact h3 p x y
  · rw [hf 37 _ (by decide) (by decide) (by decide) (by simp)]
    exact h4 p x
  · rw [hf 36 _ (by decide) (by decide) (by decide) (by simp)]
    exact h5 p k x y z
theorem s_readBy {lim nm : Int} (hw : wfW α) (hD : wfD α) (hW : rlW α μ) (hm : wfM α) (hM : rlM α μ) (hSh : shW α tl t μ) (hv : 0 ≤ w ∧ w < α 74 20) (hl : 1 ≤ lim ∧ lim ≤ 1000) (hn : nm = 0 ∨ nm = 1) (hS : StB μ) (hr : μ 27 6 + 1 < 2147483647)
    (h : ∀ ν, FrB μ ν → StB ν → ν 27 6 = μ 27 6 + 1 → ν 27 7 = lim → ν 27 8 = nm → Hd ν 7920 (whole (Orc α tl w t) (α 87 tl) (ind (isMn α t (cwd α tl 0) w)) (ind (isMn α t (cwd α tl (α 87 tl - 1)) w))) → P (ν 29 7920) ν) : CI G l (d + 37) mX8_readBy [xr G 26, xi w, xi lim, xi nm] μ P := by
  have ht := hSh.2.1
  have hO := Orc_ok (tl := tl) (t := t) hw hv
  have hlw := (hw.2 w hv.1 hv.2).1
  generalize hnn : α 87 tl = n at *
  apply E_X8_readBy
  refine s_restart hl hn hS hr (fun ν0 a1 a2 a3 a4 a5 a6 a7 a8 a9 a10 => ?_)
  have f0 : FrB μ ν0 := fun k i k1 k2 k3 k4 => a1 k i (by omega)
  have hW0 := hW.keptB f0
  have hM0 := hM.keptB f0
  have hS0 := hSh.keptB f0
  have e5 : ν0 33 5 = n := by rw [← hnn]; exact hS0.1
  rw [e5]
  refine ⟨by omega, fun _ => s_meansAnswer hw hW0 hm hM0 hS0 (by omega) hv (fun r1 hr1 => s_meansAnswer hw hW0 hm hM0 hS0 (by omega) hv (fun r2 hr2 => ?_)), fun z => by omega⟩
  have b1 := bit_ind hr1
  have b2 := bit_ind hr2
  rw [← b1, ← b2] at h
  have c1 : r1 = 0 ∨ r1 = 1 := by rw [b1]; exact ind_01 _
  have c2 : r2 = 0 ∨ r2 = 1 := by rw [b2]; exact ind_01 _
  obtain ⟨u1, u2, u3, u4, u5⟩ := v_wu hO (n := n) (fr := r1) (ba := r2) ht (by omega) (by omega)
  rw [whole_eq] at h
  have hz : r1 = 0 → r2 = 0 → P 0 ν0 := by
    intro z1 z2
    have e : (mg (mg (mg (mg (mg T0 (wu1 (Orc α tl w t) n r1 r2)) (wu2 (Orc α tl w t) n r1)) (wu3 (Orc α tl w t) n r1)) (wu4 (Orc α tl w t) n r2)) (wu5 (Orc α tl w t) n r2)) = T0 := by
      rw [mg_0 _ (wu1 _ _ _ _) (by simp [wu1, z1]), mg_0 _ (wu2 _ _ _) (by simp [wu2, z1]), mg_0 _ (wu3 _ _ _) (by simp [wu3, z1]), mg_0 _ (wu4 _ _ _) (by simp [wu4, z2]), mg_0 _ (wu5 _ _ _) (by simp [wu5, z2])]
    have h9 := h ν0 f0 a6 a3 a4 a5 (by rw [e]; exact a9)
    have e9 : ν0 29 7920 = 0 := by
      rw [a9.1, a4]
      unfold cap T0
      simp only
      rw [if_pos (by omega)]
    rw [e9] at h9
    exact h9
  have hrow : ∀ i j, 0 ≤ i → j ≤ 7 → vW (j - i + 1) (RV (Orc α tl w t) 0 i j 0 (α 77 w)) := fun i j h1 h2 => v_RV hO h1 h2 (Int.le_refl _) (Int.le_refl _)
  have hno : noP ((16 : Int) - 1) 7920 := fun tb i j a b h1 _ => by have := pc_b h1; omega
  have go : K_X8_readBy_63 G l (d + 37) P w (n - 1) r1 r2 ν0 := by
    apply B_X8_readBy_63
    refine s_takeAnswer hw hW0 hv (fun ν1 g1 hA => ?_)
    have f1 : FrB ν0 ν1 := fun k i k1 k2 k3 k4 => g1 k i k2 (by omega)
    have hE : cl_Env α tl w t ν1 := ⟨hw, hW0.keptB f1, hm, hM0.keptB f1, hS0.keptB f1, hA, by
      unfold EnvM
      rw [g1 27 7 (by decide) (Or.inl (by decide)), g1 27 8 (by decide) (Or.inl (by decide)), a4, a5]
      exact ⟨hl, hn⟩⟩
    have e8 : ν1 33 8 = α 77 w := hA.1
    have e6 : ν1 27 6 = ν0 27 6 := g1 27 6 (by decide) (Or.inl (by decide))
    have e28 : ∀ q, ν1 28 q = ν0 28 q := fun q => g1 28 q (by decide) (Or.inl (by decide))
    have hd : ∀ q T, Hd ν0 q T → Hd ν1 q T := by
      intro q T hH
      unfold Hd Nm at *
      rw [g1 29 _ (by decide) (Or.inl (by decide)), g1 30 _ (by decide) (Or.inl (by decide)), g1 27 7 (by decide) (Or.inl (by decide)), g1 27 8 (by decide) (Or.inl (by decide)), g1 31 _ (by decide) (Or.inl (by decide)), g1 31 _ (by decide) (Or.inl (by decide)), g1 31 _ (by decide) (Or.inl (by decide))]
      exact hH
    have B0 : BS (Orc α tl w t) 7920 16 ν1 ν1 T0 := by
      refine ⟨FrR.rf, ⟨by rw [e6]; exact a6.1, fun q q0 q1 => by rw [e28, e6]; exact a6.2 q q0 q1⟩, ⟨hd _ _ a10, fun tb i j a b y1 y2 y3 => ?_⟩, fun _ z => z, by rw [e28, e6]; exact a8, hd _ _ a9, fun _ _ _ => sm.rf⟩
      rw [e28, e6] at y3
      have := pc_b y1
      exact absurd y3 (a7 _ this.1 this.2)
    have fin : ∀ ν, BS (Orc α tl w t) 7920 16 ν1 ν (mg (mg (mg (mg (mg T0 (wu1 (Orc α tl w t) n r1 r2)) (wu2 (Orc α tl w t) n r1)) (wu3 (Orc α tl w t) n r1)) (wu4 (Orc α tl w t) n r2)) (wu5 (Orc α tl w t) n r2)) → iR (ν 29 7920) ∧ P (ν 29 7920) ν := by
      intro ν hB
      have hE' := hE.kept hB.1
      have vv := vW_mg (vW_mg (vW_mg (vW_mg (vW_mg (vW_T0 8) u1) u2) u3) u4) u5
      have wy := hB.2.2.2.2.2.1.ways hE'.2.2.2.2.2.2 (vv.T (by decide))
      have q6 : ν 27 6 = μ 27 6 + 1 := by rw [hB.1.st6, e6]; exact a3
      refine ⟨by omega, h ν (fun k i k1 k2 k3 k4 => ?_) hB.2.1 q6 ?_ ?_ hB.2.2.2.2.2.1⟩
      · rw [hB.1 k i (by omega) k3 (Or.inl (by omega)) (by omega), f1 k i k1 k2 k3 k4, f0 k i k1 k2 k3 k4]
      · rw [hB.1 27 7 (by decide) (by decide) (by decide) (by decide), g1 27 7 (by decide) (Or.inl (by decide))]; exact a4
      · rw [hB.1 27 8 (by decide) (by decide) (by decide) (by decide), g1 27 8 (by decide) (Or.inl (by decide))]; exact a5
    have call : ∀ (i j : Int) (T : Tri) (ν : xMem) (Q : Int → xMem → Prop), (0 ≤ i ∧ i ≤ 9) → (-9 ≤ j ∧ j < n) → j - i ≤ 7 → BS (Orc α tl w t) 7920 16 ν1 ν T → (∀ r ν', BS (Orc α tl w t) 7920 16 ν1 ν' T → (0 ≤ r ∧ r < 7922) → r ≠ 7920 → Hd ν' r (RV (Orc α tl w t) 0 i j 0 (α 77 w)) → Q r ν') → CI G l (d + 36) mX8_rowOf [xr G 26, xi 0, xi i, xi j, xi 0, xi (ν 33 8), xi 0] ν Q := by
      intro i j T ν Q hi hj hij hB hQ
      have hE' := hE.kept hB.1
      rw [hE'.2.2.2.2.2.1.1]
      refine (KC_all hD 15 (d + 36) 0 i j 0 (α 77 w) 0 ν Q (by omega) hE' hB.2.1 hB.2.2.1 (Or.inl rfl) hi (by rw [hnn]; exact hj) (by omega) (by omega) (by omega) (by omega)).1 (by omega) (fun r ν' hp => ?_)
      obtain ⟨B1, m1, R1⟩ := hB.call hno hp
      have A1 := R1.hd B1.2.2.1
      rw [vl_r (Or.inl rfl)] at A1
      exact hQ r ν' B1 R1.b (R1.ne hno (by decide)) A1
    have env : ∀ ν T, BS (Orc α tl w t) 7920 16 ν1 ν T → EnvM ν := fun ν T hB => (hE.kept hB.1).2.2.2.2.2.2
    have w3 := vW_mg (vW_mg (vW_mg (vW_T0 8) u1) u2) u3
    have w4 := vW_mg w3 u4
    have w2 := vW_mg (vW_mg (vW_T0 8) u1) u2
    have w1 := vW_mg (vW_T0 8) u1
    have k215 : ∀ ν, BS (Orc α tl w t) 7920 16 ν1 ν (mg (mg (mg (mg T0 (wu1 (Orc α tl w t) n r1 r2)) (wu2 (Orc α tl w t) n r1)) (wu3 (Orc α tl w t) n r1)) (wu4 (Orc α tl w t) n r2)) → K_X8_readBy_215 G l (d + 37) P (n - 1) r2 ν := by
      intro ν hB
      generalize mg (mg (mg (mg T0 (wu1 (Orc α tl w t) n r1 r2)) (wu2 (Orc α tl w t) n r1)) (wu3 (Orc α tl w t) n r1)) (wu4 (Orc α tl w t) n r2) = T at *
      apply B_X8_readBy_215
      refine ⟨by omega, fun z => fin ν ?_, fun z => ⟨by omega, fun z2 => fin ν ?_, fun z2 => s_isSign (hE.kept hB.1).2.2.2.2.1 (by omega) (by omega) (fun r3 hr3 => ⟨fun z3 => fin ν ?_, fun z3 => s_hasEnough (env ν T hB) (by omega) (w4.T (by decide)) hB.2.2.2.2.2.1 (fun r4 hr4 => ⟨fun z4 => fin ν ?_, fun z4 => ?_⟩)⟩)⟩⟩
      · rw [mg_0 T _ (by simp [wu5, z])]; exact hB
      · rw [mg_0 T _ (by simp [wu5]; rw [if_neg (by omega)]; simp)]; exact hB
      · have e : (Orc α tl w t).2.2.2.1 (n - 2) 9 = 0 := by
          rw [show n - 2 = n - 1 - 1 by omega]
          exact ind_f ((bit0 hr3).mp z3)
        rw [mg_0 T _ (by simp only [wu5]; rw [e]; simp)]; exact hB
      · exact hB.more (us := [wu5 (Orc α tl w t) n r2]) ((bitne hr4).mp z4) (vL_cons u5 vL_nil)
      · have e : (Orc α tl w t).2.2.2.1 (n - 2) 9 = 1 := by
          rw [show n - 2 = n - 1 - 1 by omega]
          exact ind_t ((bitne hr3).mp z3)
        refine call 0 (n - 1 - 2) T ν _ (by omega) (by omega) (by omega) hB (fun r5 ν5 B5 q1 q2 A5 => ?_)
        have vr := hrow 0 (n - 1 - 2) (by omega) (by omega)
        have es5 : ν5 33 5 = n := by rw [← hnn]; exact (hE.kept B5.1).2.2.2.2.1.1
        refine s_addBack (env ν5 T B5) q1 q2 (by omega) (by omega) (w4.T (by decide)) (vr.T (by omega)) (fun y => ?_) B5.2.2.2.2.2.1 A5 (fun ν6 f6 g6 => fin ν6 (B5.q hno (by decide) f6 ?_))
        · have := vr.2 y; omega
        · have eu : wu5 (Orc α tl w t) n r2 = ((RV (Orc α tl w t) 0 0 (n - 1 - 2) 0 (α 77 w)).1, 1 + (RV (Orc α tl w t) 0 0 (n - 1 - 2) 0 (α 77 w)).2.1, (RV (Orc α tl w t) 0 0 (n - 1 - 2) 0 (α 77 w)).2.2 ++ (nLnk (n - 1 - 1) ++ [11, 29, 12 + (ν5 33 5 - 1)])) := by
            unfold wu5 nLnk
            rw [e, if_pos (by omega), if_neg (by omega), es5, show r2 = 1 by omega, show n - 1 - 2 = n - 3 by omega, show n - 1 - 1 = n - 2 by omega, show (Orc α tl w t).2.2.2.2 = α 77 w from rfl]
            simp
          rw [eu]
          exact g6
    have k173 : ∀ ν, BS (Orc α tl w t) 7920 16 ν1 ν (mg (mg (mg T0 (wu1 (Orc α tl w t) n r1 r2)) (wu2 (Orc α tl w t) n r1)) (wu3 (Orc α tl w t) n r1)) → K_X8_readBy_173 G l (d + 37) P (n - 1) r2 ν := by
      intro ν hB
      generalize mg (mg (mg T0 (wu1 (Orc α tl w t) n r1 r2)) (wu2 (Orc α tl w t) n r1)) (wu3 (Orc α tl w t) n r1) = T at *
      apply B_X8_readBy_173
      refine ⟨by omega, fun z => k215 ν ?_, fun z => s_hasEnough (env ν T hB) (by omega) (w3.T (by decide)) hB.2.2.2.2.2.1 (fun r4 hr4 => ⟨fun z4 => k215 ν ?_, fun z4 => ?_⟩)⟩
      · rw [mg_0 T _ (by simp [wu4, z])]; exact hB
      · exact hB.more (us := [wu4 (Orc α tl w t) n r2]) ((bitne hr4).mp z4) (vL_cons u4 vL_nil)
      · refine call 0 (n - 1 - 1) T ν _ (by omega) (by omega) (by omega) hB (fun r5 ν5 B5 q1 q2 A5 => ?_)
        have vr := hrow 0 (n - 1 - 1) (by omega) (by omega)
        have es5 : ν5 33 5 = n := by rw [← hnn]; exact (hE.kept B5.1).2.2.2.2.1.1
        refine s_addBack (env ν5 T B5) q1 q2 (by omega) (by omega) (w3.T (by decide)) (vr.T (by omega)) (fun y => ?_) B5.2.2.2.2.2.1 A5 (fun ν6 f6 g6 => k215 ν6 (B5.q hno (by decide) f6 ?_))
        · have := vr.2 y; omega
        · have eu : wu4 (Orc α tl w t) n r2 = ((RV (Orc α tl w t) 0 0 (n - 1 - 1) 0 (α 77 w)).1, 1 + (RV (Orc α tl w t) 0 0 (n - 1 - 1) 0 (α 77 w)).2.1, (RV (Orc α tl w t) 0 0 (n - 1 - 1) 0 (α 77 w)).2.2 ++ (nLnk (-1) ++ [11, 29, 12 + (ν5 33 5 - 1)])) := by
            unfold wu4 nLnk
            rw [if_pos rfl, es5, show r2 = 1 by omega, show n - 1 - 1 = n - 2 by omega, show (Orc α tl w t).2.2.2.2 = α 77 w from rfl]
            simp
          rw [eu]
          exact g6
    have k114 : ∀ ν, BS (Orc α tl w t) 7920 16 ν1 ν (mg (mg T0 (wu1 (Orc α tl w t) n r1 r2)) (wu2 (Orc α tl w t) n r1)) → K_X8_readBy_114 G l (d + 37) P (n - 1) r1 r2 ν := by
      intro ν hB
      generalize mg (mg T0 (wu1 (Orc α tl w t) n r1 r2)) (wu2 (Orc α tl w t) n r1) = T at *
      apply B_X8_readBy_114
      refine ⟨by omega, fun z => k173 ν ?_, fun z => ⟨by omega, fun z2 => k173 ν ?_, fun z2 => s_isSign (hE.kept hB.1).2.2.2.2.1 (by omega) (by omega) (fun r3 hr3 => ⟨fun z3 => k173 ν ?_, fun z3 => s_hasEnough (env ν T hB) (by omega) (w2.T (by decide)) hB.2.2.2.2.2.1 (fun r4 hr4 => ⟨fun z4 => k173 ν ?_, fun z4 => ?_⟩)⟩)⟩⟩
      · rw [mg_0 T _ (by simp [wu3, z])]; exact hB
      · rw [mg_0 T _ (by simp [wu3]; rw [if_neg (by omega)]; simp)]; exact hB
      · have e : (Orc α tl w t).2.2.2.1 1 9 = 0 := ind_f ((bit0 hr3).mp z3)
        rw [mg_0 T _ (by simp only [wu3]; rw [e]; simp)]; exact hB
      · exact hB.more (us := [wu3 (Orc α tl w t) n r1]) ((bitne hr4).mp z4) (vL_cons u3 vL_nil)
      · have e : (Orc α tl w t).2.2.2.1 1 9 = 1 := ind_t ((bitne hr3).mp z3)
        refine call 2 (n - 1) T ν _ (by omega) (by omega) (by omega) hB (fun r5 ν5 B5 q1 q2 A5 => ?_)
        have vr := hrow 2 (n - 1) (by omega) (by omega)
        refine s_addFront (env ν5 T B5) q1 q2 (by omega) (w2.T (by decide)) (vr.T (by omega)) (fun y => ?_) B5.2.2.2.2.2.1 A5 (fun ν6 f6 g6 => k173 ν6 (B5.q hno (by decide) f6 ?_))
        · have := vr.2 y; omega
        · have eu : wu3 (Orc α tl w t) n r1 = ((RV (Orc α tl w t) 0 2 (n - 1) 0 (α 77 w)).1, 1 + (RV (Orc α tl w t) 0 2 (n - 1) 0 (α 77 w)).2.1, [29, 12, 11] ++ (nLnk 1 ++ (RV (Orc α tl w t) 0 2 (n - 1) 0 (α 77 w)).2.2)) := by
            unfold wu3 nLnk
            rw [e, if_pos (by omega), if_neg (by decide), show r1 = 1 by omega, show (Orc α tl w t).2.2.2.2 = α 77 w from rfl]
            simp
          rw [eu]
          exact g6
    have k87 : ∀ ν, BS (Orc α tl w t) 7920 16 ν1 ν (mg T0 (wu1 (Orc α tl w t) n r1 r2)) → K_X8_readBy_87 G l (d + 37) P (n - 1) r1 r2 ν := by
      intro ν hB
      generalize mg T0 (wu1 (Orc α tl w t) n r1 r2) = T at *
      apply B_X8_readBy_87
      refine ⟨by omega, fun z => k114 ν ?_, fun z => ?_⟩
      · rw [mg_0 T _ (by simp [wu2, z])]; exact hB
      · refine call 1 (n - 1) T ν _ (by omega) (by omega) (by omega) hB (fun r5 ν5 B5 q1 q2 A5 => ?_)
        have vr := hrow 1 (n - 1) (by omega) (by omega)
        refine s_addFront (env ν5 T B5) q1 q2 (by omega) (w1.T (by decide)) (vr.T (by omega)) (fun y => ?_) B5.2.2.2.2.2.1 A5 (fun ν6 f6 g6 => k114 ν6 (B5.q hno (by decide) f6 ?_))
        · have := vr.2 y; omega
        · have eu : wu2 (Orc α tl w t) n r1 = ((RV (Orc α tl w t) 0 1 (n - 1) 0 (α 77 w)).1, 1 + (RV (Orc α tl w t) 0 1 (n - 1) 0 (α 77 w)).2.1, [29, 12, 11] ++ (nLnk (-1) ++ (RV (Orc α tl w t) 0 1 (n - 1) 0 (α 77 w)).2.2)) := by
            unfold wu2 nLnk
            rw [if_pos rfl, show r1 = 1 by omega, show (Orc α tl w t).2.2.2.2 = α 77 w from rfl]
            simp
          rw [eu]
          exact g6
    refine ⟨by omega, fun z => k87 ν1 ?_, fun z => ⟨by omega, fun z2 => k87 ν1 ?_, fun z2 => s_addTwo hE hnn.symm B0.2.2.2.2.2.1 (fun ν2 f2 g2 => k87 ν2 (B0.q hno (by decide) f2 ?_))⟩⟩
    · rw [mg_0 T0 _ (by simp [wu1, z])]; exact B0
    · rw [mg_0 T0 _ (by simp [wu1, z2])]; exact B0
    · rw [show r1 = 1 by omega, show r2 = 1 by omega]; exact g2
  exact ⟨fun _ => go, fun z => ⟨fun _ => go, fun z2 => hz z z2⟩⟩
end SpecReadBy
