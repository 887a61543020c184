/-! the model: read -/
section SpecMRead
variable {G : xG} {l : Launch} {d : Nat} {μ ν α : xMem} {P : Int → xMem → Prop} {PV' : xMem → Prop} {tl w t : Int}
def FmR (μ ν : xMem) : Prop := ∀ k i, (k < 92 ∨ 107 ≤ k) → (k ≠ 74 ∨ i < 41 ∨ 49 < i) → ν k i = μ k i
theorem FmR.rf : FmR μ μ := fun _ _ _ _ => rfl
theorem FmR.tr {m1 m2 m3 : xMem} (h1 : FmR m1 m2) (h2 : FmR m2 m3) : FmR m1 m3 := fun k i a b => (h2 k i a b).trans (h1 k i a b)
theorem FmS.r (h : FmS μ ν) : FmR μ ν := fun k i a b => h k i (by omega) (by omega)
theorem n_wu {O : xO} (hO : okO O) {n fr ba : Int} (hn : 2 ≤ n ∧ n ≤ 8) : vN n (wu1 O n fr ba) ∧ vN n (wu2 O n fr) ∧ vN n (wu3 O n fr) ∧ vN n (wu4 O n ba) ∧ vN n (wu5 O n ba) := by
  have hr : ∀ i j, 0 ≤ i → j ≤ 7 → vN (j - i + 1) (RV O 0 i j 0 O.2.2.2.2) := fun i j h1 h2 => n_RV hO h1 h2 (Int.le_refl _) (Int.le_refl _)
  have e0 : val 1 [29, 12] := val_2 (Or.inr (by omega)) (by omega)
  have e1 : val 1 [11, 29, 12 + (n - 1)] := val_cons (Or.inl (by omega)) (val_2 (Or.inr (by omega)) (by omega)) (by omega)
  refine ⟨fun z => ?_, fun z => ?_, fun z => ?_, fun z => ?_, fun z => ?_⟩
  · unfold wu1 at z ⊢
    simp only at z ⊢
    by_cases c2 : n = 2
    · have e := val_app e0 e1 (by omega)
      rw [if_neg (by omega), nLnk, if_pos rfl]
      rw [show (1 : Int) + 1 = n by omega] at e
      exact e
    · by_cases c3 : n = 3
      · have e := val_app e0 (val_app (val_2 (x := 27) (s := 13) (Or.inr (by omega)) (by omega)) e1 (by omega)) (by omega)
        rw [if_pos c3, nLnk, if_neg (by decide)]
        rw [show (1 : Int) + (1 + 1) = n by omega] at e
        exact e
      · rw [if_neg c2, if_neg c3, Int.mul_zero] at z
        exact absurd rfl z
  · have e := val_app e0 (val_cons (s := 11) (Or.inl (by omega)) (hr 1 (n - 1) (by omega) (by omega) (mul_nz z).2) (by omega)) (by omega)
    rw [show (1 : Int) + (n - 1 - 1 + 1) = n by omega] at e
    exact e
  · have hz := (mul_nz z).2
    have n3 : 3 ≤ n := by
      by_cases c : 3 ≤ n
      · exact c
      · exact absurd (if_neg c) (mul_nz (mul_nz z).1).2
    have e := val_app e0 (val_cons (s := 11) (Or.inl (by omega)) (val_app (val_2 (x := 27) (s := 13) (Or.inr (by omega)) (by omega)) (hr 2 (n - 1) (by omega) (by omega) hz) (by omega)) (by omega)) (by omega)
    rw [show (1 : Int) + (1 + (n - 1 - 2 + 1)) = n by omega] at e
    exact e
  · have e := val_app (hr 0 (n - 2) (by omega) (by omega) (mul_nz z).2) e1 (by omega)
    rw [show n - 2 - 0 + 1 + 1 = n by omega] at e
    exact e
  · have hz := (mul_nz z).2
    have e := val_app (hr 0 (n - 3) (by omega) (by omega) hz) (val_app (val_2 (x := 27) (s := 12 + (n - 2)) (Or.inr (by omega)) (by omega)) e1 (by omega)) (by omega)
    rw [show n - 3 - 0 + 1 + (1 + 1) = n by omega] at e
    exact e
theorem s_mIsMeant {k : Int} (hw : wfW α) (hR : MR α tl w t μ) (hk : 0 ≤ k ∧ k < α 87 tl) (h : P (ind (isMn α t (cwd α tl k) w)) μ) : CI G l (d + 1) mX12_isMeant [xr G 74, xi k, xi w] μ P := by
  have hv := hR.2.2.2.2.2.2.1
  have ht := hR.2.2.2.1
  have hn := hw.1
  obtain ⟨q1, q2, q3⟩ := hR.2.2.2.2.1 k hk.1 hk.2
  apply E_X12_isMeant
  rw [q1, hR.2.1.2 _ _ q2 q3 hv.1 hv.2]
  exact ⟨by omega, by omega, ind_01 _, h⟩
theorem s_mIsLink {k : Int} (hw : wfW α) (hR : MR α tl w t μ) (hk : 0 ≤ k ∧ k < α 87 tl) (h : P ((Orc α tl w t).2.2.2.1 k 9) μ) : CI G l (d + 1) mX12_isLink [xr G 74, xi k] μ P := by
  have ht := hR.2.2.2.1
  have hn := hw.1
  obtain ⟨q1, q2, q3⟩ := hR.2.2.2.2.1 k hk.1 hk.2
  have sb := sgn_bit (k := 9) hR.2.1 ⟨q2, q3⟩ (by omega)
  apply E_X12_isLink
  rw [q1]
  refine ⟨by omega, by omega, fun z => ?_, fun z => ?_⟩
  · rw [show (Orc α tl w t).2.2.2.1 k 9 = 0 from ind_f (fun y => z (sb.mpr y))] at h
    exact h
  · rw [show (Orc α tl w t).2.2.2.1 k 9 = 1 from ind_t (sb.mp z)] at h
    exact h
theorem s_sayLink {L : List Int} {k : Int} (hk : 0 ≤ k ∧ k ≤ 7) (hL : Dm μ L) (hl : L.length + 2 ≤ 80) (h : ∀ ν, Dm ν (L ++ [27, 12 + k]) → FmD μ ν → PV' ν) : CV G l (d + 2) mX12_sayLink [xr G 74, xi k] μ PV' := by
  apply E_X12_sayLink
  refine s_say (s := 27) (by decide) (by omega) hL (by omega) (fun m1 g1 f1 => s_say (chr_word hk) (by omega) g1 (by simp; omega) (fun m2 g2 f2 => h m2 ?_ (f1.tr f2)))
  simpa using g2
theorem s_front {lk x m : Int} {R T : Tri} (hx : 0 ≤ x ∧ x < 3960) (hlk : -1 ≤ lk ∧ lk ≤ 7) (hX : HdX 95 96 97 99 μ x R) (hRv : vW 8 R) (hC : Cu μ T) (hT : vW 8 T) (hTn : vN m T) (hU : vW 8 (R.1, 1 + R.2.1, [29, 12, 11] ++ (nLnk lk ++ R.2.2))) (hUn : vN m (R.1, 1 + R.2.1, [29, 12, 11] ++ (nLnk lk ++ R.2.2)))
    (h : ∀ ν, FmC μ ν → Cu ν (mg T (R.1, 1 + R.2.1, [29, 12, 11] ++ (nLnk lk ++ R.2.2))) → PV' ν) : CV G l (d + 3) mX12_front [xr G 74, xi lk, xi x] μ PV' := by
  have wR := cap_b hRv
  have wc := cs_b hRv (by omega)
  obtain ⟨r1, r2⟩ := nm_ok hRv (by omega)
  have ll := lnk_len (k := lk)
  apply E_X12_front
  refine s_mopen (fun m1 g1 f1 => s_say (s := 29) (by decide) (by omega) g1 (by simp) (fun m2 g2 f2 => s_say (s := 12) (by decide) (by omega) g2 (by simp) (fun m3 g3 f3 => s_say (s := 11) (by decide) (by omega) g3 (by simp) (fun m4 g4 f4 => ?_))))
  have fD := f1.tr (f2.tr (f3.tr f4))
  have g4' : Dm m4 [29, 12, 11] := by simpa using g4
  have k31 : ∀ m5, Dm m5 ([29, 12, 11] ++ nLnk lk) → FmD μ m5 → K_X12_front_31 G l (d + 3) PV' x m5 := by
    intro m5 g5 f5
    apply B_X12_front_31
    refine s_sayRow hx r1 (by omega) (hX.2.2.kD f5 (by decide) (by decide)) g5 (by simp; omega) (fun m6 g6 f6 => ⟨hx, ?_⟩)
    have f7 := f5.tr f6
    have hX6 := hX.kept f7.c.n (by decide) (by decide) (by decide) (by decide)
    rw [hX6.1, hX6.2.1]
    refine s_moffer (M := 8) (m := m) (u := (R.1, 1 + R.2.1, [29, 12, 11] ++ (nLnk lk ++ R.2.2))) (by omega) (hC.kD f7) hT hU hTn hUn (by omega) cap_cap (by omega) (fun z => ⟨by unfold cs; rw [if_neg z], ?_⟩) (fun m7 c7 f8 => h m7 (f7.c.tr f8) c7)
    rw [show nm R = R.2.2 by unfold nm; rw [if_neg z], List.append_assoc] at g6
    exact g6
  refine ⟨by omega, fun z => k31 m4 ?_ fD, fun z => s_sayLink (by omega) g4' (by simp) (fun m5 g5 f5 => k31 m5 ?_ (fD.tr f5))⟩
  · rw [show lk = -1 by omega, nLnk, if_pos rfl]
    simpa using g4'
  · rw [nLnk, if_neg (by omega)]
    exact g5
theorem s_back {lk x m n : Int} {R T : Tri} (hx : 0 ≤ x ∧ x < 3960) (hlk : -1 ≤ lk ∧ lk ≤ 7) (hn : 2 ≤ n ∧ n ≤ 8) (hX : HdX 95 96 97 99 μ x R) (hRv : vW 8 R) (hC : Cu μ T) (hT : vW 8 T) (hTn : vN m T) (hU : vW 8 (R.1, 1 + R.2.1, R.2.2 ++ (nLnk lk ++ [11, 29, 12 + (n - 1)]))) (hUn : vN m (R.1, 1 + R.2.1, R.2.2 ++ (nLnk lk ++ [11, 29, 12 + (n - 1)])))
    (h : ∀ ν, FmC μ ν → Cu ν (mg T (R.1, 1 + R.2.1, R.2.2 ++ (nLnk lk ++ [11, 29, 12 + (n - 1)]))) → PV' ν) : CV G l (d + 3) mX12_back [xr G 74, xi lk, xi x, xi n] μ PV' := by
  have wR := cap_b hRv
  have wc := cs_b hRv (by omega)
  obtain ⟨r1, r2⟩ := nm_ok hRv (by omega)
  have ll := lnk_len (k := lk)
  apply E_X12_back
  refine s_mopen (fun m1 g1 f1 => s_sayRow hx r1 (by omega) (hX.2.2.kD f1 (by decide) (by decide)) g1 (by simp; omega) (fun m2 g2 f2 => ?_))
  have fD := f1.tr f2
  have g2' : Dm m2 (nm R) := by simpa using g2
  have k18 : ∀ m5, Dm m5 (nm R ++ nLnk lk) → FmD μ m5 → K_X12_back_18 G l (d + 3) PV' x n m5 := by
    intro m5 g5 f5
    apply B_X12_back_18
    refine s_say (s := 11) (by decide) (by omega) g5 (by simp; omega) (fun m6 g6 f6 => s_say (s := 29) (by decide) (by omega) g6 (by simp; omega) (fun m7 g7 f7 => s_say (s := 12 + (n - 1)) (by rw [← chr_word (by omega)]; omega) (by omega) g7 (by simp; omega) (fun m8 g8 f8 => ⟨hx, ?_⟩)))
    have f9 := f5.tr (f6.tr (f7.tr f8))
    have hX8 := hX.kept f9.c.n (by decide) (by decide) (by decide) (by decide)
    rw [hX8.1, hX8.2.1]
    refine s_moffer (M := 8) (m := m) (u := (R.1, 1 + R.2.1, R.2.2 ++ (nLnk lk ++ [11, 29, 12 + (n - 1)]))) (by omega) (hC.kD f9) hT hU hTn hUn (by omega) cap_cap (by omega) (fun z => ⟨by unfold cs; rw [if_neg z], ?_⟩) (fun m9 c9 f10 => h m9 (f9.c.tr f10) c9)
    rw [show nm R = R.2.2 by unfold nm; rw [if_neg z]] at g8
    simpa using g8
  refine ⟨by omega, fun z => k18 m2 ?_ fD, fun z => s_sayLink (by omega) g2' (by omega) (fun m5 g5 f5 => k18 m5 ?_ (fD.tr f5))⟩
  · rw [show lk = -1 by omega, nLnk, if_pos rfl]
    simpa using g2'
  · rw [nLnk, if_neg (by omega)]
    exact g5
theorem whole_0 {O : xO} {n fr ba : Int} (h1 : fr = 0) (h2 : ba = 0) : whole O n fr ba = T0 := by
  rw [whole_eq, mg_0 _ (wu1 _ _ _ _) (by simp [wu1, h1]), mg_0 _ (wu2 _ _ _) (by simp [wu2, h1]), mg_0 _ (wu3 _ _ _) (by simp [wu3, h1]), mg_0 _ (wu4 _ _ _) (by simp [wu4, h2]), mg_0 _ (wu5 _ _ _) (by simp [wu5, h2])]
/-- the clue of telling tl by the word w, on day t -/
noncomputable def wh (α : xMem) (tl w t : Int) : Tri := whole (Orc α tl w t) (α 87 tl) (ind (isMn α t (cwd α tl 0) w)) (ind (isMn α t (cwd α tl (α 87 tl - 1)) w))
theorem wh_v (hw : wfW α) (hc : 2 ≤ α 87 tl ∧ α 87 tl ≤ 8) (hv : 0 ≤ w ∧ w < α 74 20) : vW 8 (wh α tl w t) := by
  have hO := Orc_ok (tl := tl) (t := t) hw hv
  have c1 := ind_01 (isMn α t (cwd α tl 0) w)
  have c2 := ind_01 (isMn α t (cwd α tl (α 87 tl - 1)) w)
  obtain ⟨u1, u2, u3, u4, u5⟩ := v_wu hO (n := α 87 tl) (fr := ind (isMn α t (cwd α tl 0) w)) (ba := ind (isMn α t (cwd α tl (α 87 tl - 1)) w)) hc (by omega) (by omega)
  unfold wh
  rw [whole_eq]
  exact vW_mg (vW_mg (vW_mg (vW_mg (vW_mg (vW_T0 8) u1) u2) u3) u4) u5
theorem s_read (hw : wfW α) (hM : wfM α) (hA : MA α μ) (hK : Kn α t μ) (htl : 0 ≤ tl ∧ tl < 60) (hcl : clW α tl) (hv : 0 ≤ w ∧ w < α 74 20) (h : ∀ ν, FmR μ ν → Cu ν (wh α tl w t) → P (cap 1000 (wh α tl w t).1) ν) : CI G l (d + 8) mX12_read [xr G 74, xi tl, xi w] μ P := by
  have hO := Orc_ok (tl := tl) (t := t) hw hv
  have ht := hcl.1
  have hl := (hw.2 w hv.1 hv.2).1
  have hn := hw.1
  have hwv := wh_v (tl := tl) (t := t) hw ht hv
  have c1 := ind_01 (isMn α t (cwd α tl 0) w)
  have c2 := ind_01 (isMn α t (cwd α tl (α 87 tl - 1)) w)
  have fin : ∀ ν, Cu ν (wh α tl w t) → FmR μ ν → iR (ν 74 46) ∧ P (ν 74 46) ν := by
    intro ν hC hf
    have := cap_b hwv
    rw [hC.1]
    exact ⟨by omega, h ν hf hC⟩
  have hz : ind (isMn α t (cwd α tl 0) w) = 0 → ind (isMn α t (cwd α tl (α 87 tl - 1)) w) = 0 → ∀ ν, Cu ν T0 → FmR μ ν → P 0 ν := by
    intro z1 z2 ν hC hf
    have e : wh α tl w t = T0 := whole_0 z1 z2
    rw [e] at h
    exact h ν hf hC
  have hwe : wh α tl w t = whole (Orc α tl w t) (α 87 tl) (ind (isMn α t (cwd α tl 0) w)) (ind (isMn α t (cwd α tl (α 87 tl - 1)) w)) := rfl
  rw [whole_eq] at hwe
  obtain ⟨u1, u2, u3, u4, u5⟩ := v_wu hO (n := α 87 tl) (fr := ind (isMn α t (cwd α tl 0) w)) (ba := ind (isMn α t (cwd α tl (α 87 tl - 1)) w)) ht (by omega) (by omega)
  obtain ⟨y1, y2, y3, y4, y5⟩ := n_wu hO (n := α 87 tl) (fr := ind (isMn α t (cwd α tl 0) w)) (ba := ind (isMn α t (cwd α tl (α 87 tl - 1)) w)) ht
  -- from makeAll on
  have k117 : ∀ ν, MR α tl w t ν → FmR μ ν → K_X12_read_117 G l (d + 8) P w (α 87 tl) ν := by
    intro ν hR hf
    apply B_X12_read_117
    refine s_makeAll hw hM hR (fun ν1 f1 t1 => s_clear (fun ν2 g2 f2 => ?_))
    have fR2 : FmR μ ν2 := hf.tr (f1.tr f2.s).r
    have hR2 := hR.kept (f1.tr f2.s)
    have tr2 : ∀ i j, 0 ≤ i → i ≤ j → j < α 87 tl → HdX 95 96 97 99 ν2 (mp i j 0 (α 77 w) 0) (RV (Orc α tl w t) 0 i j 0 (α 77 w)) := by
      intro i j h1 h2 h3
      have := (t1 i j 0 (α 77 w) 0 ⟨by omega, by omega, Or.inl rfl⟩ h3 (Int.le_refl _) trivial).kept f2.n (by decide) (by decide) (by decide) (by decide)
      simpa [sdA, sdB] using this
    have okm : ∀ i j, 0 ≤ i → i ≤ j → j < α 87 tl → okM i j 0 (α 77 w) 0 := fun i j h1 h2 h3 => ⟨by omega, by omega, Or.inl rfl⟩
    have vr : ∀ i j, 0 ≤ i → i ≤ j → j < α 87 tl → vW 8 (RV (Orc α tl w t) 0 i j 0 (α 77 w)) := fun i j h1 h2 h3 => (v_RV hO h1 (by omega) (Int.le_refl _) (Int.le_refl _)).le (by omega)
    generalize hnn : α 87 tl = n at *
    generalize hr1 : ind (isMn α t (cwd α tl 0) w) = r1 at *
    generalize hr2 : ind (isMn α t (cwd α tl (n - 1)) w) = r2 at *
    have k273 : ∀ ν, Cu ν (mg (mg (mg T0 (wu1 (Orc α tl w t) n r1 r2)) (wu2 (Orc α tl w t) n r1)) (wu3 (Orc α tl w t) n r1)) → FmC ν2 ν → K_X12_read_273 G l (d + 8) P w n ν := by
      intro ν hC hf3
      have wT := vW_mg (vW_mg (vW_mg (vW_T0 8) u1) u2) u3
      have nT := vN_mg (vW_mg (vW_mg (vW_T0 8) u1) u2).1 u3.1 (vN_mg (vW_mg (vW_T0 8) u1).1 u2.1 (vN_mg (vW_T0 8).1 u1.1 (vN_T0 n) y1) y2) y3
      generalize mg (mg (mg T0 (wu1 (Orc α tl w t) n r1 r2)) (wu2 (Orc α tl w t) n r1)) (wu3 (Orc α tl w t) n r1) = T at *
      apply B_X12_read_273
      have hR3 := hR2.kept hf3.s
      refine s_mIsMeant hw hR3 (by omega) ?_
      rw [hr2]
      refine ⟨fun z => fin ν ?_ (fR2.tr hf3.s.r), fun z => ?_⟩
      · rw [hwe, mg_0 T _ (by simp [wu4, z]), mg_0 T _ (by simp [wu5, z])]
        exact hC
      · have e2 : r2 = 1 := by omega
        rw [hR3.2.2.2.2.2.1]
        have eu4 : wu4 (Orc α tl w t) n r2 = ((RV (Orc α tl w t) 0 0 (n - 2) 0 (α 77 w)).1, 1 + (RV (Orc α tl w t) 0 0 (n - 2) 0 (α 77 w)).2.1, (RV (Orc α tl w t) 0 0 (n - 2) 0 (α 77 w)).2.2 ++ (nLnk (-1) ++ [11, 29, 12 + (n - 1)])) := by
          unfold wu4 nLnk
          rw [if_pos rfl, e2, show (Orc α tl w t).2.2.2.2 = α 77 w from rfl]
          simp
        refine s_at (okm 0 (n - 2) (by omega) (by omega) (by omega)) (s_back (m := n) (n := n) (mp_b (okm 0 (n - 2) (by omega) (by omega) (by omega))) (by omega) ht ((tr2 0 (n - 2) (by omega) (by omega) (by omega)).kept hf3.n (by decide) (by decide) (by decide) (by decide)) (vr 0 (n - 2) (by omega) (by omega) (by omega)) hC wT nT (by rw [← eu4]; exact u4) (by rw [← eu4]; exact y4) (fun ν4 f4 c4 => ?_))
        rw [← eu4] at c4
        have wT4 := vW_mg wT u4
        have nT4 := vN_mg wT.1 u4.1 nT y4
        have fC4 := hf3.tr f4
        have stop : (if 3 ≤ n then (Orc α tl w t).2.2.2.1 (n - 2) 9 else 0) = 0 → iR (ν4 74 46) ∧ P (ν4 74 46) ν4 := by
          intro y
          refine fin ν4 ?_ (fR2.tr fC4.s.r)
          rw [hwe, mg_0 (mg T _) (wu5 _ _ _) (by simp only [wu5]; rw [y]; simp)]
          exact c4
        have hR4 := hR2.kept fC4.s
        refine ⟨by omega, fun y => stop (if_neg (by omega)), fun y => s_mIsLink hw hR4 (by omega) ⟨fun x => stop (by rw [if_pos (by omega)]; exact x), fun x => ?_⟩⟩
        have x1 : (Orc α tl w t).2.2.2.1 (n - 2) 9 = 1 := by
          have : (Orc α tl w t).2.2.2.1 (n - 2) 9 = 0 ∨ (Orc α tl w t).2.2.2.1 (n - 2) 9 = 1 := ind_01 _
          omega
        rw [hR4.2.2.2.2.2.1]
        have eu5 : wu5 (Orc α tl w t) n r2 = ((RV (Orc α tl w t) 0 0 (n - 3) 0 (α 77 w)).1, 1 + (RV (Orc α tl w t) 0 0 (n - 3) 0 (α 77 w)).2.1, (RV (Orc α tl w t) 0 0 (n - 3) 0 (α 77 w)).2.2 ++ (nLnk (n - 2) ++ [11, 29, 12 + (n - 1)])) := by
          unfold wu5 nLnk
          rw [if_pos (by omega), if_neg (by omega), e2, x1, show (Orc α tl w t).2.2.2.2 = α 77 w from rfl]
          simp
        refine s_at (okm 0 (n - 3) (by omega) (by omega) (by omega)) (s_back (m := n) (n := n) (mp_b (okm 0 (n - 3) (by omega) (by omega) (by omega))) (by omega) ht ((tr2 0 (n - 3) (by omega) (by omega) (by omega)).kept fC4.n (by decide) (by decide) (by decide) (by decide)) (vr 0 (n - 3) (by omega) (by omega) (by omega)) c4 wT4 nT4 (by rw [← eu5]; exact u5) (by rw [← eu5]; exact y5) (fun ν5 f5 c5 => fin ν5 ?_ (fR2.tr (fC4.tr f5).s.r)))
        rw [hwe, eu5]
        exact c5
    have k215 : ∀ ν, Cu ν (mg T0 (wu1 (Orc α tl w t) n r1 r2)) → FmC ν2 ν → K_X12_read_215 G l (d + 8) P w n ν := by
      intro ν hC hf3
      have wT := vW_mg (vW_T0 8) u1
      have nT := vN_mg (vW_T0 8).1 u1.1 (vN_T0 n) y1
      generalize mg T0 (wu1 (Orc α tl w t) n r1 r2) = T at *
      apply B_X12_read_215
      have hR3 := hR2.kept hf3.s
      refine s_mIsMeant hw hR3 (by omega) ?_
      rw [hr1]
      refine ⟨fun z => k273 ν ?_ hf3, fun z => ?_⟩
      · rw [mg_0 T _ (by simp [wu2, z]), mg_0 T _ (by simp [wu3, z])]
        exact hC
      · have e1 : r1 = 1 := by omega
        rw [hR3.2.2.2.2.2.1]
        have eu2 : wu2 (Orc α tl w t) n r1 = ((RV (Orc α tl w t) 0 1 (n - 1) 0 (α 77 w)).1, 1 + (RV (Orc α tl w t) 0 1 (n - 1) 0 (α 77 w)).2.1, [29, 12, 11] ++ (nLnk (-1) ++ (RV (Orc α tl w t) 0 1 (n - 1) 0 (α 77 w)).2.2)) := by
          unfold wu2 nLnk
          rw [if_pos rfl, e1, show (Orc α tl w t).2.2.2.2 = α 77 w from rfl]
          simp
        refine s_at (okm 1 (n - 1) (by omega) (by omega) (by omega)) (s_front (m := n) (mp_b (okm 1 (n - 1) (by omega) (by omega) (by omega))) (by omega) ((tr2 1 (n - 1) (by omega) (by omega) (by omega)).kept hf3.n (by decide) (by decide) (by decide) (by decide)) (vr 1 (n - 1) (by omega) (by omega) (by omega)) hC wT nT (by rw [← eu2]; exact u2) (by rw [← eu2]; exact y2) (fun ν4 f4 c4 => ?_))
        rw [← eu2] at c4
        have wT4 := vW_mg wT u2
        have nT4 := vN_mg wT.1 u2.1 nT y2
        have fC4 := hf3.tr f4
        have stop : (if 3 ≤ n then (Orc α tl w t).2.2.2.1 1 9 else 0) = 0 → K_X12_read_273 G l (d + 8) P w n ν4 := by
          intro y
          refine k273 ν4 ?_ fC4
          rw [mg_0 (mg T _) (wu3 _ _ _) (by simp only [wu3]; rw [y]; simp)]
          exact c4
        have hR4 := hR2.kept fC4.s
        refine ⟨by omega, fun y => stop (if_neg (by omega)), fun y => s_mIsLink hw hR4 (by omega) ⟨fun x => stop (by rw [if_pos (by omega)]; exact x), fun x => ?_⟩⟩
        have x1 : (Orc α tl w t).2.2.2.1 1 9 = 1 := by
          have : (Orc α tl w t).2.2.2.1 1 9 = 0 ∨ (Orc α tl w t).2.2.2.1 1 9 = 1 := ind_01 _
          omega
        rw [hR4.2.2.2.2.2.1]
        have eu3 : wu3 (Orc α tl w t) n r1 = ((RV (Orc α tl w t) 0 2 (n - 1) 0 (α 77 w)).1, 1 + (RV (Orc α tl w t) 0 2 (n - 1) 0 (α 77 w)).2.1, [29, 12, 11] ++ (nLnk 1 ++ (RV (Orc α tl w t) 0 2 (n - 1) 0 (α 77 w)).2.2)) := by
          unfold wu3 nLnk
          rw [if_pos (by omega), if_neg (by decide), e1, x1, show (Orc α tl w t).2.2.2.2 = α 77 w from rfl]
          simp
        refine s_at (okm 2 (n - 1) (by omega) (by omega) (by omega)) (s_front (m := n) (mp_b (okm 2 (n - 1) (by omega) (by omega) (by omega))) (by omega) ((tr2 2 (n - 1) (by omega) (by omega) (by omega)).kept fC4.n (by decide) (by decide) (by decide) (by decide)) (vr 2 (n - 1) (by omega) (by omega) (by omega)) c4 wT4 nT4 (by rw [← eu3]; exact u3) (by rw [← eu3]; exact y3) (fun ν5 f5 c5 => k273 ν5 ?_ (fC4.tr f5)))
        rw [eu3]
        exact c5
    have k163 : (n = 2 ∨ n = 3) → wu1 (Orc α tl w t) n r1 r2 = (1, 2, [29, 12] ++ (nLnk (if n = 3 then 1 else -1) ++ [11, 29, 12 + (n - 1)])) → K_X12_read_163 G l (d + 8) P w n ν2 := by
      intro hn2 hu
      rw [hu] at k215 u1 y1
      apply B_X12_read_163
      refine s_mopen (fun m1 g1 d1 => s_say (s := 29) (by decide) (by omega) g1 (by simp) (fun m2 g2' d2 => s_say (s := 12) (by decide) (by omega) g2' (by simp) (fun m3 g3 d3 => ?_)))
      have g3' : Dm m3 [29, 12] := by simpa using g3
      have fD := d1.tr (d2.tr d3)
      have k189 : ∀ m4, Dm m4 ([29, 12] ++ nLnk (if n = 3 then 1 else -1)) → FmD ν2 m4 → K_X12_read_189 G l (d + 8) P w n m4 := by
        intro m4 g4 f4
        have ll := lnk_len (k := if n = 3 then 1 else -1)
        apply B_X12_read_189
        refine s_say (s := 11) (by decide) (by omega) g4 (by simp; omega) (fun m6 g6 f6 => s_say (s := 29) (by decide) (by omega) g6 (by simp; omega) (fun m7 g7 f7 => s_say (s := 12 + (n - 1)) (by rw [← chr_word (by omega)]; omega) (by omega) g7 (by simp; omega) (fun m8 g8 f8 => ?_)))
        have f9 := f4.tr (f6.tr (f7.tr f8))
        refine s_moffer (M := 8) (m := n) (u := (1, 2, [29, 12] ++ (nLnk (if n = 3 then 1 else -1) ++ [11, 29, 12 + (n - 1)]))) (by omega) (g2.kD f9) (vW_T0 _) u1 (vN_T0 _) y1 (by omega) rfl (by decide) (fun _ => ⟨rfl, by simpa using g8⟩) (fun m9 c9 f10 => k215 m9 c9 (f9.c.tr f10))
      refine ⟨by omega, fun z => k189 m3 ?_ fD, fun z => s_sayLink (by omega) g3' (by simp) (fun m4 g4 f4 => k189 m4 ?_ (fD.tr f4))⟩
      · rw [if_neg z, nLnk, if_pos rfl]
        simpa using g3'
      · rw [if_pos z, nLnk, if_neg (by decide)]
        exact g4
    have no : wu1 (Orc α tl w t) n r1 r2 = wu1 (Orc α tl w t) n r1 r2 → (wu1 (Orc α tl w t) n r1 r2).1 = 0 → K_X12_read_215 G l (d + 8) P w n ν2 := by
      intro _ z
      refine k215 ν2 ?_ FmC.rf
      rw [mg_0 T0 _ z]
      exact g2
    refine s_mIsMeant hw hR2 (by omega) ?_
    rw [hr1]
    refine ⟨fun z => no rfl (by simp [wu1, z]), fun z => s_mIsMeant hw hR2 (by omega) ?_⟩
    rw [hr2]
    refine ⟨fun z2 => no rfl (by simp [wu1, z2]), fun z2 => ⟨by omega, fun z3 => k163 (Or.inl z3) ?_, fun z3 => ⟨fun z4 => no rfl ?_, fun z4 => s_mIsLink hw hR2 (by omega) ⟨fun z5 => no rfl ?_, fun z5 => k163 (Or.inr z4) ?_⟩⟩⟩⟩
    · unfold wu1
      rw [if_pos z3, show r1 = 1 by omega, show r2 = 1 by omega]
      rfl
    · unfold wu1
      rw [if_neg z3, if_neg z4]
      simp
    · unfold wu1
      rw [if_neg z3, if_pos z4, z5]
      simp
    · have x1 : (Orc α tl w t).2.2.2.1 1 9 = 1 := by
        have : (Orc α tl w t).2.2.2.1 1 9 = 0 ∨ (Orc α tl w t).2.2.2.1 1 9 = 1 := ind_01 _
        omega
      unfold wu1
      rw [if_neg z3, if_pos z4, x1, show r1 = 1 by omega, show r2 = 1 by omega]
      rfl
  -- the copies
  have m87 : μ 87 tl = α 87 tl := hA.1 87 tl (by decide) (by decide)
  have m77 : μ 77 w = α 77 w := hA.1 77 w (by decide) (by decide)
  have k55 : ∀ (N : Nat) (v : Int) (ν : xMem), v + N = α 77 w → 0 ≤ v → (∀ k i, k ≠ 100 → k ≠ 101 → (k ≠ 74 ∨ (i ≠ 41 ∧ i ≠ 42)) → ν k i = μ k i) → ν 74 41 = α 87 tl → ν 74 42 = α 77 w → (∀ p, 0 ≤ p → p < α 87 tl → ν 100 p = cwd α tl p) → (∀ k, 0 ≤ k → k < v → ν 101 k = α 76 (10 * w + k)) → K_X12_read_55 G l (d + 8) P w v ν := by
    intro N
    induction N with
    | zero =>
      intro v ν hv1 v0 hf h41 h42 h100 h101
      apply B_X12_read_55
      rw [h41, h42]
      refine ⟨by omega, by omega, fun _ => s_clear (fun ν1 g1 f1 => ?_), fun z => by omega⟩
      have hR : MR α tl w t ν := by
        refine ⟨⟨fun k i a b => ?_, fun i a b => ?_⟩, ⟨fun v a b => ?_, fun a b x1 x2 x3 x4 => ?_⟩, h41, ht, fun p a b => ⟨h100 p a b, hcl.2 p a b⟩, h42, hv, fun k a b => h101 k a (by omega)⟩
        · rw [hf k i (by omega) (by omega) (Or.inl (by omega))]; exact hA.1 k i a b
        · rw [hf 74 i (by omega) (by omega) (Or.inr (by omega))]; exact hA.2 i a b
        · rw [hf 90 v (by omega) (by omega) (Or.inl (by omega))]; exact hK.1 v a b
        · rw [hf 91 _ (by omega) (by omega) (Or.inl (by omega))]; exact hK.2 a b x1 x2 x3 x4
      have fR : FmR μ ν := fun k i a b => hf k i (by omega) (by omega) (by omega)
      have hR1 := hR.kept f1.s
      have fR1 := fR.tr f1.s.r
      refine s_mIsMeant hw hR1 (by omega) ⟨fun z => k117 ν1 hR1 fR1, fun z => s_mIsMeant hw hR1 (by omega) ⟨fun z2 => k117 ν1 hR1 fR1, fun z2 => hz z z2 ν1 g1 fR1⟩⟩
    | succ N ih =>
      intro v ν hv1 v0 hf h41 h42 h100 h101
      apply B_X12_read_55
      rw [h42]
      refine ⟨by omega, by omega, fun z => by omega, fun _ => ⟨by omega, by omega, ih (v + 1) _ (by omega) (by omega) (fun k i a b c => by rw [← hf k i a b c]; unfold st2; grind) (by simp [st2]; exact h41) (by simp [st2]; exact h42) (fun p a b => by rw [← h100 p a b]; simp [st2]) (fun k a b => ?_)⟩⟩
      have e : (st2 ν 101 v (ν 76 (10 * w + v))) 101 k = if k = v then ν 76 (10 * w + v) else ν 101 k := by simp [st2]
      rw [e]
      by_cases c : k = v
      · rw [if_pos c, hf 76 _ (by decide) (by decide) (Or.inl (by decide)), hA.1 76 _ (by decide) (by decide), c]
      · rw [if_neg c]; exact h101 k a (by omega)
  have k12 : ∀ (N : Nat) (v : Int) (ν : xMem), v + N = α 87 tl → 0 ≤ v → (∀ k i, k ≠ 100 → (k ≠ 74 ∨ i ≠ 41) → ν k i = μ k i) → ν 74 41 = α 87 tl → (∀ p, 0 ≤ p → p < v → ν 100 p = cwd α tl p) → K_X12_read_12 G l (d + 8) P tl w v ν := by
    intro N
    induction N with
    | zero =>
      intro v ν hv1 v0 hf h41 h100
      apply B_X12_read_12
      rw [h41, hf 77 w (by decide) (Or.inl (by decide)), m77]
      refine ⟨by omega, by omega, fun _ => ⟨by omega, k55 (α 77 w).toNat 0 _ (by omega) (by omega) (fun k i a b c => by rw [← hf k i a (by omega)]; unfold st2; grind) (by simp [st2]; exact h41) (by simp [st2]) (fun p a b => by rw [← h100 p a (by omega)]; simp [st2]) (fun k a b => by omega)⟩, fun z => by omega⟩
    | succ N ih =>
      intro v ν hv1 v0 hf h41 h100
      apply B_X12_read_12
      rw [h41]
      refine ⟨by omega, by omega, fun z => by omega, fun _ => ⟨by omega, by omega, ih (v + 1) _ (by omega) (by omega) (fun k i a b => by rw [← hf k i a b]; unfold st2; grind) (by simp [st2]; exact h41) (fun p a b => ?_)⟩⟩
      have e : (st2 ν 100 v (ν 88 (8 * tl + v))) 100 p = if p = v then ν 88 (8 * tl + v) else ν 100 p := by simp [st2]
      rw [e]
      by_cases c : p = v
      · rw [if_pos c, hf 88 _ (by decide) (Or.inl (by decide)), hA.1 88 _ (by decide) (by decide), c]; rfl
      · rw [if_neg c]; exact h100 p a (by omega)
  apply E_X12_read
  rw [m87]
  exact ⟨htl, k12 (α 87 tl).toNat 0 _ (by omega) (by omega) (fun k i a b => by unfold st2; grind) (by simp [st2]) (fun p a b => by omega)⟩
end SpecMRead
