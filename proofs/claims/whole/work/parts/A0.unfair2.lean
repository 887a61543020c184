/-! unfair: all of it -/
section Unfair2
variable {G : xG} {l : Launch} {d : Nat} {μ ν α m y z : xMem} {P : Int → xMem → Prop} {PV' : xMem → Prop} {N t : Int}
theorem slo_ex (α : xMem) (t c : Int) : ∃ r, slo α c t r := by
  rcases Classical.em (∃ k, isSo α c t k) with ⟨k, h⟩ | h
  · exact ⟨_, Or.inr ⟨k, h, rfl⟩⟩
  · exact ⟨-1, Or.inl ⟨rfl, fun k q => h ⟨k, q⟩⟩⟩
noncomputable def sOf (α : xMem) (t c : Int) : Int := Classical.choose (slo_ex α t c)
theorem sOf_s (α : xMem) (t c : Int) : slo α c t (sOf α t c) := Classical.choose_spec (slo_ex α t c)
noncomputable def nts (α : xMem) (t c s : Int) : List (Int × Int) := n1' α t c s ++ (n2' α t c s ++ (n3' α t c s ++ (n4' α c ++ n5' α t c s)))
noncomputable def NT (α : xMem) (t : Int) : Nat → List (Int × Int)
  | 0 => []
  | n + 1 => NT α t n ++ cite (lit α n) (nts α t n (sOf α t n)) []
theorem nts_len {c s : Int} : (nts α t c s).length ≤ 5 := by
  unfold nts n1' n2' n3' n4' n5'
  have h1 := cl_len (p := s = -1) (x := (1, c))
  have h2 := cl_len (p := s ≠ -1 ∧ ¬ pos α c s t) (x := (2, c))
  have h3 := cl_len (p := s ≠ -1 ∧ rvl α t c s) (x := (3, c))
  have h4 := cl_len (p := 2 * crN α c < α 89 c) (x := (4, c))
  have h5 := cl_len (p := s ≠ -1 ∧ qrl α t c s) (x := (5, c))
  simp only [List.length_append]
  omega
theorem NT_len : ∀ n : Nat, (NT α t n).length ≤ 5 * n
  | 0 => by simp [NT]
  | n + 1 => by
    have := NT_len n
    rw [NT, List.length_append]
    rcases Classical.em (lit α n) with q | q
    · rw [cite_t q]; have := nts_len (α := α) (t := t) (c := n) (s := sOf α t n); omega
    · rw [cite_f q]; simp; omega
theorem s_review {c : Int} {L : List (Int × Int)} (hG : gG α) (hW : gW α) (hL : gL α) (hx : xG' α z) (hxl : xL α z) (hA : MA α m) (e41 : z 41 = m 41) (e42 : z 42 = m 42) (ht : iR t) (hc : lit α c) (hl : lok m c t) (hT : TL 65 66 z (z 64 5) L) (hlen : L.length ≤ 75) (h : ∀ z', FrX [65, 66] [(64, 5)] z z' → TL 65 66 z' (z' 64 5) (L ++ nts α t c (sOf α t c)) → PV' z') : CV G l (d + 5) mX1_review [xr G 64, xi c, xi t] z PV' := by
  have c0 := hc.1
  have c1 := hc.2.1
  have hb := hW.1.1
  have e49 : ∀ z', FrX [65, 66] [(64, 5)] z z' → z' 49 c = α 89 c := fun z' f => by rw [f.k 49 (by decide), hx.2.2.1, hG.2.1.1 c c0 c1, if_pos hc.2.2]
  have lb := (hG.1.2.1 c hc).2.2.1
  have kG : ∀ z', FrX [65, 66] [(64, 5)] z z' → xG' α z' := fun z' f => ⟨by rw [f.k 47 (by decide)]; exact hx.1, by rw [f.k 48 (by decide)]; exact hx.2.1, by rw [f.k 49 (by decide)]; exact hx.2.2.1, by rw [f.k 53 (by decide)]; exact hx.2.2.2.1, by rw [f.k 13 (by decide)]; exact hx.2.2.2.2⟩
  have kL : ∀ z', FrX [65, 66] [(64, 5)] z z' → xL α z' := fun z' f => ⟨by rw [f.k 55 (by decide)]; exact hxl.1, by rw [f.k 56 (by decide)]; exact hxl.2.1, by rw [f.k 57 (by decide)]; exact hxl.2.2.1, by rw [f.f 54 2 (by decide)]; exact hxl.2.2.2⟩
  have crb : 0 ≤ crN α c ∧ crN α c ≤ 16 := cntW_le 16
  apply E_X1_review
  refine s_solutionOf hW hL hxl (by omega) ht (fun s hs => ?_)
  have es := slo_u hs (sOf_s α t c)
  rw [← es] at h
  have sb := slo_b hW hL hs
  have l1 : (n1' α t c s).length ≤ 1 := cl_len
  have l2 : (n2' α t c s).length ≤ 1 := cl_len
  have l3 : (n3' α t c s).length ≤ 1 := cl_len
  have l4 : (n4' α c).length ≤ 1 := cl_len
  have k116 : ∀ (v4 s1 : Int) (z4 : xMem), bit v4 (s ≠ -1) → bit s1 (2 * crN α c < α 89 c) → FrX [65, 66] [(64, 5)] z z4 → TL 65 66 z4 (z4 64 5) (L ++ (n1' α t c s ++ (n2' α t c s ++ n3' α t c s))) → K_X1_review_116 G l (d + 5) PV' c t s v4 s1 z4 := by
    intro v4 s1 z4 b4 b1 f4 t4
    apply B_X1_review_116
    refine s_noteIf b1 t4 (by simp only [List.length_append]; omega) (fun z5 f5 t5 => ?_)
    have f45 : FrX [65, 66] [(64, 5)] z z5 := f4.tr' f5
    have fin : ∀ b z6, z6 = z5 → bit b (s ≠ -1 ∧ qrl α t c s) → CV G l (d + 4) mX1_noteIf [xr G 64, xi b, xi 5, xi c] z6 (fun m7 => PV' m7) := by
      intro b z6 e6 hb6
      subst e6
      refine s_noteIf hb6 t5 (by simp only [List.length_append]; have : (cl' (2 * crN α c < α 89 c) (4, c)).length ≤ 1 := cl_len; omega) (fun z7 f7 t7 => h z7 (f45.tr' f7) ?_)
      have : L ++ nts α t c s = L ++ (n1' α t c s ++ (n2' α t c s ++ n3' α t c s)) ++ cl' (2 * crN α c < α 89 c) (4, c) ++ cl' (s ≠ -1 ∧ qrl α t c s) (5, c) := by
        simp only [nts, n4', n5', List.append_assoc]
      rw [this]
      exact t7
    refine ⟨by rcases b4 with q | q <;> omega, fun q => fin 0 z5 rfl (Or.inr ⟨rfl, fun q2 => (bit0 b4).mp q q2.1⟩), fun q => ?_⟩
    have sn := (bitne b4).mp q
    exact s_clashes hG hW hL (kG z5 f45) (kL z5 f45) ht hc (slo_w hL hs sn) (fun r8 g8 => ⟨fun q2 => fin 0 z5 rfl (Or.inr ⟨rfl, fun q3 => (bit0 g8).mp q2 q3.2⟩), fun q2 => fin 1 z5 rfl (Or.inl ⟨rfl, sn, (bitne g8).mp q2⟩)⟩)
  have k86 : ∀ (v4 s1 : Int) (z3 : xMem), bit v4 (s ≠ -1) → bit s1 (s ≠ -1 ∧ rvl α t c s) → FrX [65, 66] [(64, 5)] z z3 → TL 65 66 z3 (z3 64 5) (L ++ (n1' α t c s ++ n2' α t c s)) → K_X1_review_86 G l (d + 5) PV' c t s v4 s1 z3 := by
    intro v4 s1 z3 b4 b1 f3 t3
    apply B_X1_review_86
    refine s_noteIf b1 t3 (by simp only [List.length_append]; omega) (fun z4 f4 t4 => ?_)
    have f34 : FrX [65, 66] [(64, 5)] z z4 := f3.tr' f4
    have t4' : TL 65 66 z4 (z4 64 5) (L ++ (n1' α t c s ++ (n2' α t c s ++ n3' α t c s))) := by
      have : L ++ (n1' α t c s ++ (n2' α t c s ++ n3' α t c s)) = L ++ (n1' α t c s ++ n2' α t c s) ++ cl' (s ≠ -1 ∧ rvl α t c s) (3, c) := by simp only [n3', List.append_assoc]
      rw [this]; exact t4
    refine s_crossed hG (kG z4 f34) hc ?_
    rw [e49 z4 f34]
    exact ⟨⟨c0, c1⟩, by omega, by omega, fun q => k116 v4 0 z4 b4 (Or.inr ⟨rfl, by omega⟩) f34 t4', fun q => k116 v4 1 z4 b4 (Or.inl ⟨rfl, q⟩) f34 t4'⟩
  have k61 : ∀ (v4 s1 : Int) (z2 : xMem), bit v4 (s ≠ -1) → bit s1 (s ≠ -1 ∧ ¬ pos α c s t) → FrX [65, 66] [(64, 5)] z z2 → TL 65 66 z2 (z2 64 5) (L ++ n1' α t c s) → K_X1_review_61 G l (d + 5) PV' c t s v4 s1 z2 := by
    intro v4 s1 z2 b4 b1 f2 t2
    apply B_X1_review_61
    refine s_noteIf b1 t2 (by simp only [List.length_append]; omega) (fun z3 f3 t3 => ?_)
    have f23 : FrX [65, 66] [(64, 5)] z z3 := f2.tr' f3
    have t3' : TL 65 66 z3 (z3 64 5) (L ++ (n1' α t c s ++ n2' α t c s)) := by
      have : L ++ (n1' α t c s ++ n2' α t c s) = L ++ n1' α t c s ++ cl' (s ≠ -1 ∧ ¬ pos α c s t) (2, c) := by simp only [n2', List.append_assoc]
      rw [this]; exact t3
    refine ⟨by rcases b4 with q | q <;> omega, fun q => k86 v4 0 z3 b4 (Or.inr ⟨rfl, fun q2 => (bit0 b4).mp q q2.1⟩) f23 t3', fun q => ?_⟩
    have sn := (bitne b4).mp q
    exact s_hasRival hG hW (kG z3 f23) hA (by rw [f23.k 41 (by decide)]; exact e41) (by rw [f23.k 42 (by decide)]; exact e42) hc hl (slo_w hL hs sn) (fun r6 g6 => ⟨fun q2 => k86 v4 0 z3 b4 (Or.inr ⟨rfl, fun q3 => (bit0 g6).mp q2 q3.2⟩) f23 t3', fun q2 => k86 v4 1 z3 b4 (Or.inl ⟨rfl, sn, (bitne g6).mp q2⟩) f23 t3'⟩)
  have k33 : ∀ v4 s1, bit v4 (s ≠ -1) → bit s1 (s = -1) → K_X1_review_33 G l (d + 5) PV' c t s v4 s1 z := by
    intro v4 s1 b4 b1
    apply B_X1_review_33
    refine s_noteIf b1 hT (by omega) (fun z2 f2 t2 => ⟨by rcases b4 with q | q <;> omega, fun q => k61 v4 0 z2 b4 (Or.inr ⟨rfl, fun q2 => (bit0 b4).mp q q2.1⟩) f2 t2, fun q => ?_⟩)
    have sn := (bitne b4).mp q
    exact s_has hW hA (by rw [f2.k 41 (by decide)]; exact e41) (by rw [f2.k 42 (by decide)]; exact e42) ⟨c0, c1⟩ hl (by omega) (fun r6 g6 => ⟨fun q2 => k61 v4 0 z2 b4 (Or.inr ⟨rfl, fun q3 => q3.2 ((bitne g6).mp q2)⟩) f2 t2, fun q2 => k61 v4 1 z2 b4 (Or.inl ⟨rfl, sn, (bit0 g6).mp q2⟩) f2 t2⟩)
  exact ⟨fun q => k33 0 1 (Or.inr ⟨rfl, fun q2 => q2 q⟩) (Or.inl ⟨rfl, q⟩), fun q => k33 1 0 (Or.inl ⟨rfl, q⟩) (Or.inr ⟨rfl, q⟩)⟩
theorem s_reviewAll (hG : gG α) (hW : gW α) (hL : gL α) (hx : xG' α m) (hxl : xL α m) (hA : MA α m) (ht : iR t) (hl : ∀ c, lit α c → lok m c t) (h : ∀ z, FrX [65, 66] [(64, 5)] m z → TL 65 66 z (z 64 5) (NT α t 16) → P (z 64 5) z) : CI G l (d + 6) mX1_reviewAll [xr G 64, xi t] m P := by
  apply E_X1_reviewAll
  have main : ∀ (n v : Nat) (z : xMem), v + n = 16 → FrX [65, 66] [(64, 5)] m z → TL 65 66 z (z 64 5) (NT α t v) → K_X1_reviewAll_7 G l (d + 6) P t (v : Int) z := by
    intro n
    induction n with
    | zero =>
      intro v z hv fz tz
      have e : v = 16 := by omega
      subst e
      have := NT_len (α := α) (t := t) 16
      have := tz.1
      apply B_X1_reviewAll_7
      exact ⟨by decide, fun _ => ⟨by omega, h z fz tz⟩, fun q => absurd q (by decide)⟩
    | succ n ih =>
      intro v z hv fz tz
      have nl := NT_len (α := α) (t := t) v
      have kG : xG' α z := ⟨by rw [fz.k 47 (by decide)]; exact hx.1, by rw [fz.k 48 (by decide)]; exact hx.2.1, by rw [fz.k 49 (by decide)]; exact hx.2.2.1, by rw [fz.k 53 (by decide)]; exact hx.2.2.2.1, by rw [fz.k 13 (by decide)]; exact hx.2.2.2.2⟩
      have kL : xL α z := ⟨by rw [fz.k 55 (by decide)]; exact hxl.1, by rw [fz.k 56 (by decide)]; exact hxl.2.1, by rw [fz.k 57 (by decide)]; exact hxl.2.2.1, by rw [fz.f 54 2 (by decide)]; exact hxl.2.2.2⟩
      apply B_X1_reviewAll_7
      refine ⟨by omega, fun q => by omega, fun _ => s_hasLight hG (by rw [fz.k 49 (by decide)]; exact hx.2.2.1) (by omega) (fun r5 g5 => ⟨fun q => ?_, fun q => ?_⟩)⟩
      · have := ih (v + 1) z (by omega) fz (by rw [NT, cite_f ((bit0 g5).mp q), List.append_nil]; exact tz)
        rw [show ((v + 1 : Nat) : Int) = (v : Int) + 1 by omega] at this
        exact this
      · have hlit := (bitne g5).mp q
        refine s_review hG hW hL kG kL hA (fz.k 41 (by decide)) (fz.k 42 (by decide)) ht hlit (hl _ hlit) tz (by omega) (fun z2 f2 t2 => ?_)
        have := ih (v + 1) z2 (by omega) (fz.tr' f2) (by rw [NT, cite_t hlit]; exact t2)
        rw [show ((v + 1 : Nat) : Int) = (v : Int) + 1 by omega] at this
        exact this
  exact main 16 0 _ (by omega) (FrX.st.sub (by decide) (by decide)) ⟨by rw [st_s]; rfl, fun i hi => by simp [NT] at hi⟩
theorem s_mHasRival {c s : Int} (hG : gG α) (hW : gW α) (hx : mG α z) (hcan : ∀ w, 0 ≤ w → w < 120 → z 108 (120 * c + w) = ind (pos α c w t)) (hc : lit α c) (hs : (0 ≤ s ∧ s < α 74 20) ∧ α 77 s = α 89 c) (h : ∀ r, bit r (rvl α t c s) → P r z) : CI G l (d + 2) mX12_hasRival [xr G 74, xi c, xi s] z P := by
  have hb := hW.1.1
  have c0 := hc.1
  have c1 := hc.2.1
  have lb := (hG.1.2.1 c hc).2.2.1
  have e89 : z 89 = α 89 := hx.2.2.2.2.2.2.k 89 (by decide) (by decide)
  have e76 : z 76 = α 76 := hx.2.2.2.2.2.2.k 76 (by decide) (by decide)
  have e20 : z 74 20 = α 74 20 := hx.2.2.2.2.2.2.2 20 (by decide) (by decide)
  apply E_X12_hasRival
  have main : ∀ (n : Nat) (v : Int), v + n = α 74 20 → 0 ≤ v → (∀ x, 0 ≤ x → x < v → ¬ (pos α c x t ∧ x ≠ s ∧ alk α c x s)) → K_X12_hasRival_2 G l (d + 2) P c s v z := by
    intro n
    induction n with
    | zero =>
      intro v hv v0 hi
      apply B_X12_hasRival_2
      rw [e20]
      refine ⟨by omega, by omega, fun _ => h 0 (Or.inr ⟨rfl, fun ⟨x, q⟩ => ?_⟩), fun q => by omega⟩
      have := (pos_w q.1).1
      exact hi x this.1 (by omega) q
    | succ n ih =>
      intro v hv v0 hi
      have nx : ¬ (pos α c v t ∧ v ≠ s ∧ alk α c v s) → K_X12_hasRival_2 G l (d + 2) P c s (v + 1) z := fun hq => ih (v + 1) (by omega) (by omega) (fun x x0 x1 => by
        rcases (show x < v ∨ x = v by omega) with q2 | q2
        · exact hi x x0 q2
        · rw [q2]; exact hq)
      apply B_X12_hasRival_2
      rw [e20, hcan v v0 (by omega)]
      refine ⟨by omega, by omega, fun q => by omega, fun _ => ⟨by omega, fun q => nx (fun q2 => q2.2.1 q), fun q => ⟨by omega, by have := ind_01 (pos α c v t); omega, fun q2 => ?_, fun q2 => nx (fun q3 => ind_eq.mp q2 q3.1)⟩⟩⟩
      have hp := ind_ne.mp q2
      have pw := pos_w hp
      have inner : ∀ (j : Nat) (k is : Int), k + j = α 89 c → 0 ≤ k → bit is (∀ o k' k'', k' < k → crs α c o k' k'' → lt α v k' = lt α s k') → K_X12_hasRival_38 G l (d + 2) P c s v is k z := by
        intro j
        induction j with
        | zero =>
          intro k is hk k0 hi2
          have eq : (∀ o k' k'', k' < k → crs α c o k' k'' → lt α v k' = lt α s k') ↔ alk α c v s := ⟨fun q3 o k' k'' q4 => q3 o k' k'' (by have := q4.2.2.2.1; omega) q4, fun q3 o k' k'' _ q4 => q3 o k' k'' q4⟩
          apply B_X12_hasRival_38
          rw [e89]
          refine ⟨⟨c0, c1⟩, by omega, by omega, fun _ => ⟨by rcases hi2 with q3 | q3 <;> omega, fun q3 => nx (fun q4 => (bit0 hi2).mp q3 (eq.mpr q4.2.2)), fun q3 => h 1 (Or.inl ⟨rfl, v, hp, q, eq.mp ((bitne hi2).mp q3)⟩)⟩, fun q3 => by omega⟩
        | succ j ihj =>
          intro k is hk k0 hi2
          apply B_X12_hasRival_38
          rw [e89]
          have bad : ¬ (∀ o k' k'', k' < k → crs α c o k' k'' → lt α v k' = lt α s k') → ¬ (∀ o k' k'', k' < k + 1 → crs α c o k' k'' → lt α v k' = lt α s k') := fun q3 q4 => q3 (fun o k' k'' h1 => q4 o k' k'' (by omega))
          have good : (∀ o k' k'', k' < k → crs α c o k' k'' → lt α v k' = lt α s k') → (∀ o k'', crs α c o k k'' → lt α v k = lt α s k) → (∀ o k' k'', k' < k + 1 → crs α c o k' k'' → lt α v k' = lt α s k') := fun q3 q4 o k' k'' h1 q5 => by
            rcases (show k' < k ∨ k' = k by omega) with q6 | q6
            · exact q3 o k' k'' q6 q5
            · subst q6; exact q4 o k'' q5
          refine ⟨⟨c0, c1⟩, by omega, by omega, fun q3 => by omega, fun _ => ⟨by rcases hi2 with q3 | q3 <;> omega, fun q3 => ihj (k + 1) 0 (by omega) (by omega) (Or.inr ⟨rfl, bad ((bit0 hi2).mp q3)⟩), fun q3 => ?_⟩⟩
          have g0 := (bitne hi2).mp q3
          refine s_mCellOf hG hx hc k0 (by omega) (s_other hG hx hc k0 (by omega) (fun o ho => ⟨fun q4 => ihj (k + 1) 1 (by omega) (by omega) (Or.inl ⟨rfl, good g0 (fun o' k'' q5 => ?_)⟩), fun q4 => s_letterOf hW e76 pw.1 k0 (by omega) (s_letterOf hW e76 hs.1 k0 (by omega) ⟨fun q5 => ihj (k + 1) 0 (by omega) (by omega) (Or.inr ⟨rfl, fun q6 => ?_⟩), fun q5 => ihj (k + 1) 1 (by omega) (by omega) (Or.inl ⟨rfl, good g0 (fun o' k'' _ => q5)⟩)⟩)⟩))
          · rcases ho with g | g
            · exact absurd q5 (g.2 o' k'')
            · omega
          · rcases ho with g | ⟨_, ⟨k'', g⟩, _⟩
            · omega
            · exact q5 (q6 o k k'' (by omega) g)
      exact inner (α 89 c).toNat 0 1 (by omega) (by omega) (Or.inl ⟨rfl, fun o k' k'' h1 q3 => by have := q3.2.2.2.1; omega⟩)
  exact main (α 74 20).toNat 0 (by omega) (by omega) (fun x x0 x1 => by omega)
theorem s_quarrels {c s : Int} (hG : gG α) (hW : gW α) (hL : gL α) (hx : mG α z) (e67 : z 74 67 = α 74 67) (e114 : z 114 = α 114) (e115 : z 115 = α 115) (e116 : z 116 = α 116) (ht : iR t) (hc : lit α c) (hs : (0 ≤ s ∧ s < α 74 20) ∧ α 77 s = α 89 c) (h : ∀ r, bit r (qrl α t c s) → P r z) : CI G l (d + 2) mX12_quarrels [xr G 74, xi c, xi s, xi t] z P := by
  have c0 := hc.1
  have c1 := hc.2.1
  have lb := (hG.1.2.1 c hc).2.2.1
  have e89 : z 89 = α 89 := hx.2.2.2.2.2.2.k 89 (by decide) (by decide)
  have e76 : z 76 = α 76 := hx.2.2.2.2.2.2.k 76 (by decide) (by decide)
  apply E_X12_quarrels
  have main : ∀ (n : Nat) (v : Int), v + n = α 89 c → 0 ≤ v → (∀ o k k' so, k < v → crs α c o k k' → slo α o t so → so ≠ -1 → lt α s k = lt α so k') → K_X12_quarrels_3 G l (d + 2) P c s t v z := by
    intro n
    induction n with
    | zero =>
      intro v hv v0 hi
      apply B_X12_quarrels_3
      rw [e89]
      exact ⟨⟨c0, c1⟩, by omega, by omega, fun _ => h 0 (Or.inr ⟨rfl, fun ⟨o, k, k', so, q1, q2, q3, q4⟩ => q4 (hi o k k' so (by have := q1.2.2.2.1; omega) q1 q2 q3)⟩), fun q => by omega⟩
    | succ n ih =>
      intro v hv v0 hi
      have nx : (∀ o k' so, crs α c o v k' → slo α o t so → so ≠ -1 → lt α s v = lt α so k') → K_X12_quarrels_3 G l (d + 2) P c s t (v + 1) z := fun hq => ih (v + 1) (by omega) (by omega) (fun o k k' so h1 q => by
        rcases (show k < v ∨ k = v by omega) with q2 | q2
        · exact hi o k k' so q2 q
        · subst q2; exact hq o k' so q)
      apply B_X12_quarrels_3
      rw [e89]
      refine ⟨⟨c0, c1⟩, by omega, by omega, fun q => by omega, fun _ => s_mCellOf hG hx hc v0 (by omega) (s_other hG hx hc v0 (by omega) (fun o ho => ⟨fun q => ?_, fun q => ?_⟩))⟩
      · obtain ⟨⟨k', hq⟩, hu⟩ : (∃ k', crs α c o v k') ∧ ∀ o' k', crs α c o' v k' → o' = o := by
          rcases ho with g | g
          · omega
          · exact g.2
        have bk := hq.2.2.2.2.1
        have o1 := hq.2.1.2.1
        refine s_mSolutionOf hW hL e67 e114 e115 e116 (by omega) ht (fun r12 h12 => ?_)
        have rb := slo_b hW hL h12
        apply B_X12_quarrels_48
        refine ⟨by omega, fun q2 => nx (fun o' k2 so q3 q4 q5 => ?_), fun q2 => ?_⟩
        · have e1 := hu o' k2 q3
          subst e1
          have := slo_u q4 h12
          omega
        · have sw := slo_w hL h12 (by omega)
          refine s_placeIn hG hx hq (s_letterOf hW e76 sw.1 bk.1 (by omega) (s_letterOf hW e76 hs.1 v0 (by omega) ⟨fun q3 => nx (fun o' k2 so q4 q5 q6 => ?_), fun q3 => h 1 (Or.inl ⟨rfl, o, v, k', r12, hq, h12, by omega, fun q4 => q3 q4.symm⟩)⟩))
          have e1 := hu o' k2 q4
          subst e1
          rw [(crs_uniq hG.1 q4 hq).2, slo_u q5 h12]
          exact q3.symm
      · apply B_X12_quarrels_48
        refine ⟨by decide, fun _ => nx (fun o' k2 so q3 => ?_), fun q2 => absurd q2 (by decide)⟩
        rcases ho with g | g
        · exact absurd q3 (g.2 o' k2)
        · omega
  exact main (α 89 c).toNat 0 (by omega) (by omega) (fun o k k' so h1 q => by have := q.2.2.2.1; omega)
theorem op_unfair (hI : INV N μ) (hN9 : 0 ≤ N ∧ N ≤ 600) (ht : iR t) : SIM G l (d + 60) mX11_unfair mX12_unfair [xi t] N μ := by
  obtain ⟨hT, hD, hO, hW, hM, hS, hC, hL, hF, hU, hR, hG, hK, hP, hN⟩ := id hI
  have hX : XW μ := ⟨hW, hM, hS, hC, hD⟩
  have nb := hN.2.1
  have hbw := hW.1.1
  unfold SIM
  apply E_X11_unfair
  refine s_recallLights ht hX hP hG hN.1 (by omega) hN.2.2 (fun m1 f1 g1 s1 b1 c1 l1 => ?_)
  refine s_reviewAll (α := μ) hG hW hL (xG'.of f1 (by decide)) (xL.of f1 (by decide)) (MA.of f1 (by decide)) ht l1 (fun y fy ty => ?_)
  have f2 : FrX [] [(74, 0)] y (st2 y 74 0 0) := FrX.st
  apply E_X12_unfair
  generalize st2 y 74 0 0 = y0 at *
  have f02 := f1.tr (fy.tr f2)
  refine s_mfind hN9 ht (hX.kept f02 (by decide)) (hK.kept (MA.of f02 (by decide)) f02 (by decide)) (fun m3 f3 k3 can => ?_)
  have f03 := f02.tr f3
  have hA3 : MA μ m3 := MA.of f03 (by decide)
  have hcan : ∀ c w, 0 ≤ c → c < 16 → 0 ≤ w → w < 120 → m3 108 (120 * c + w) = ind (pos μ c w t) := fun c w c0 c1 w0 w1 => by rw [can c w c0 c1 w0 w1, pos_eq hA3]
  have nl16 := NT_len (α := μ) (t := t) 16
  have main : ∀ (n v : Nat) (z : xMem), v + n = 16 → FrX [124, 125] [(74, 76)] m3 z → TL 124 125 z (z 74 76) (NT μ t v) → K_X12_unfair_17 G l (d + 60) (fun r' m' => y 64 5 = r' ∧ INV (N + 1) m') t (v : Int) z := by
    intro n
    induction n with
    | zero =>
      intro v z hv fz tz
      have e : v = 16 := by omega
      subst e
      apply B_X12_unfair_17
      have e1 := tz.1
      have e2 := ty.1
      refine ⟨by decide, fun _ => ⟨by omega, by omega, ?_⟩, fun q => absurd q (by decide)⟩
      have tail := f2.tr (f3.tr fz)
      have g := f1.tr (fy.tr tail)
      have gy : gP y := g1.kept (MA.of fy (by decide)) fy (by decide)
      have rng : ∀ n : Nat, n ≤ 16 → ∀ x ∈ NT μ t n, (1 ≤ x.1 ∧ x.1 ≤ 5) ∧ 0 ≤ x.2 ∧ x.2 ≤ 16 := by
        intro n
        induction n with
        | zero => intro _ x hx; simp [NT] at hx
        | succ n ih =>
          intro hn x hx
          rw [NT, List.mem_append] at hx
          rcases hx with q | q
          · exact ih (by omega) x q
          · have key : ∀ (p : Prop) (a : Int), 1 ≤ a ∧ a ≤ 5 → x ∈ cl' p (a, (n : Int)) → (1 ≤ x.1 ∧ x.1 ≤ 5) ∧ 0 ≤ x.2 ∧ x.2 ≤ 16 := by
              intro p a ha hm
              unfold cl' at hm
              rcases Classical.em p with hp | hp
              · rw [cite_t hp] at hm
                have e := List.mem_singleton.mp hm
                rw [e]
                exact ⟨ha, by simp only; omega, by simp only; omega⟩
              · rw [cite_f hp] at hm; exact absurd hm List.not_mem_nil
            rcases Classical.em (lit μ n) with hp | hp
            · rw [cite_t hp] at q
              unfold nts n1' n2' n3' n4' n5' at q
              simp only [List.mem_append] at q
              rcases q with q | q | q | q | q
              · exact key _ 1 (by omega) q
              · exact key _ 2 (by omega) q
              · exact key _ 3 (by omega) q
              · exact key _ 4 (by omega) q
              · exact key _ 5 (by omega) q
            · rw [cite_f hp] at q; exact absurd q List.not_mem_nil
      refine ⟨hT.kept g (by decide), hD.kept g (by decide), hO.kept g (by decide), hW.kept g (by decide), hM.kept g (by decide), hS.kept g (by decide), hC.kept g (by decide), hL.kept g (by decide), hF.kept g (by decide), ⟨?_, by omega, fun k k0 k1 => ?_⟩, hR.kept g (by decide), hG.kept g (by decide), (k3.kept (MA.of fz (by decide)) fz (by decide)).le (by omega), gy.kept (MA.of tail (by decide)) tail (by decide), ?_, ?_, ?_⟩
      · rw [tail.f 64 5 (by decide)]; omega
      · obtain ⟨i, rfl⟩ : ∃ i : Nat, k = (i : Int) := ⟨k.toNat, by omega⟩
        have hi : i < (NT μ t 16).length := by omega
        have a := ty.2 i hi
        have b := tz.2 i hi
        rw [tail.k 65 (by decide), tail.k 66 (by decide), a.1, a.2, b.1, b.2]
        have hm : (NT μ t 16).getD i (0, 0) ∈ NT μ t 16 := by
          rw [List.getD_eq_getElem?_getD, List.getElem?_eq_getElem hi]
          exact List.getElem_mem hi
        have := rng 16 (by decide) _ hm
        exact ⟨rfl, rfl, by omega, by omega⟩
      · unfold StB at *
        rw [(fy.tr tail).f 27 6 (by decide), (fy.tr tail).k 28 (by decide)]
        exact s1
      · rw [(fy.tr tail).f 27 6 (by decide)]; omega
      · rw [(fy.tr tail).f 37 0 (by decide)]; exact c1
    | succ n ih =>
      intro v z hv fz tz
      have nl := NT_len (α := μ) (t := t) v
      have f0z := f03.tr fz
      have hxz : mG μ z := mG.of f0z (by decide)
      have h01 := (hG.1.1 (v : Int) (by omega) (by omega)).1
      have e67 : ∀ z', FrX [124, 125] [(74, 76)] m3 z' → z' 74 67 = μ 74 67 ∧ z' 114 = μ 114 ∧ z' 115 = μ 115 ∧ z' 116 = μ 116 := fun z' f => by
        have g := f03.tr f
        exact ⟨g.f 74 67 (by decide), g.k 114 (by decide), g.k 115 (by decide), g.k 116 (by decide)⟩
      have kx : ∀ z', FrX [124, 125] [(74, 76)] m3 z' → mG μ z' := fun z' f => mG.of (f03.tr f) (by decide)
      have kc : ∀ z', FrX [124, 125] [(74, 76)] m3 z' → ∀ w, 0 ≤ w → w < 120 → z' 108 (120 * (v : Int) + w) = ind (pos μ v w t) := fun z' f w w0 w1 => by rw [f.k 108 (by decide)]; exact hcan v w (by omega) (by omega) w0 w1
      have nxt : ∀ z', FrX [124, 125] [(74, 76)] m3 z' → TL 124 125 z' (z' 74 76) (NT μ t (v + 1)) → K_X12_unfair_17 G l (d + 60) (fun r' m' => y 64 5 = r' ∧ INV (N + 1) m') t ((v : Int) + 1) z' := fun z' f' t' => by
        have := ih (v + 1) z' (by omega) f' t'
        rw [show ((v + 1 : Nat) : Int) = (v : Int) + 1 by omega] at this
        exact this
      apply B_X12_unfair_17
      rw [hxz.2.2.2.2.1]
      refine ⟨by omega, fun q => by omega, fun _ => ⟨by omega, by omega, fun q => ?_, fun q => nxt z fz ?_⟩⟩
      · have hlit : lit μ (v : Int) := ⟨by omega, by omega, by omega⟩
        have lb := (hG.1.2.1 _ hlit).2.2.1
        have ent' : NT μ t (v + 1) = NT μ t v ++ nts μ t v (sOf μ t v) := by rw [NT, cite_t hlit]
        rw [ent'] at nxt
        obtain ⟨a1, a2, a3, a4⟩ := e67 z fz
        refine s_mSolutionOf hW hL a1 a2 a3 a4 (by omega) ht (fun s hs => ?_)
        rw [← slo_u hs (sOf_s μ t v)] at nxt
        have sb := slo_b hW hL hs
        generalize hc : (v : Int) = c at *
        generalize hLL : NT μ t v = L at *
        have l1 : (n1' μ t c s).length ≤ 1 := cl_len
        have l2 : (n2' μ t c s).length ≤ 1 := cl_len
        have l3 : (n3' μ t c s).length ≤ 1 := cl_len
        have l4 : (n4' μ c).length ≤ 1 := cl_len
        -- one note, or none
        have one : ∀ (p : Prop) (k : Int) (z1 : xMem) (L1 : List (Int × Int)) (Q : xMem → Prop), FrX [124, 125] [(74, 76)] m3 z1 → TL 124 125 z1 (z1 74 76) L1 → L1.length < 80 → (∀ z2, FrX [124, 125] [(74, 76)] m3 z2 → TL 124 125 z2 (z2 74 76) (L1 ++ cl' p (k, c)) → Q z2) → (¬ p → Q z1) ∧ (p → CV G l (d + 59) mX12_note [xr G 74, xi k, xi c] z1 Q) := by
          intro p k z1 L1 Q hz1 ht1 hl1 hQ
          refine ⟨fun hp => hQ z1 hz1 ?_, fun hp => s_note ht1 hl1 (fun z2 f2 t2 => hQ z2 (hz1.tr' f2) ?_)⟩
          · unfold cl'; rw [cite_f hp, List.append_nil]; exact ht1
          · unfold cl'; rw [cite_t hp]; exact t2
        have k162 : ∀ z5, FrX [124, 125] [(74, 76)] m3 z5 → TL 124 125 z5 (z5 74 76) (L ++ (n1' μ t c s ++ (n2' μ t c s ++ (n3' μ t c s ++ n4' μ c)))) → K_X12_unfair_162 G l (d + 60) (fun r' m' => y 64 5 = r' ∧ INV (N + 1) m') t c s z5 := by
          intro z5 h5 t5
          obtain ⟨o1, o2⟩ := one (s ≠ -1 ∧ qrl μ t c s) 5 z5 _ (fun m9 => K_X12_unfair_17 G l (d + 60) (fun r' m' => y 64 5 = r' ∧ INV (N + 1) m') t (c + 1) m9) h5 t5 (by simp only [List.length_append]; omega) (fun z6 h6 t6 => nxt z6 h6 (by simp only [nts, n4', n5', List.append_assoc] at t6 ⊢; exact t6))
          obtain ⟨a1, a2, a3, a4⟩ := e67 z5 h5
          apply B_X12_unfair_162
          refine ⟨by omega, fun q2 => o1 (fun q3 => q3.1 (by omega)), fun q2 => s_quarrels hG hW hL (kx z5 h5) a1 a2 a3 a4 ht hlit (slo_w hL hs (by omega)) (fun r4 g4 => ⟨fun q3 => o1 (fun q4 => (bit0 g4).mp q3 q4.2), fun q3 => o2 ⟨by omega, (bitne g4).mp q3⟩⟩)⟩
        have k101 : ∀ z4, FrX [124, 125] [(74, 76)] m3 z4 → TL 124 125 z4 (z4 74 76) (L ++ (n1' μ t c s ++ (n2' μ t c s ++ n3' μ t c s))) → K_X12_unfair_101 G l (d + 60) (fun r' m' => y 64 5 = r' ∧ INV (N + 1) m') t c s 0 0 z4 := by
          intro z4 h4 t4
          obtain ⟨o1, o2⟩ := one (2 * crN μ c < μ 89 c) 4 z4 _ (fun m9 => K_X12_unfair_162 G l (d + 60) (fun r' m' => y 64 5 = r' ∧ INV (N + 1) m') t c s m9) h4 t4 (by simp only [List.length_append]; omega) (fun z5 h5 t5 => k162 z5 h5 (by simp only [n4', List.append_assoc] at t5 ⊢; exact t5))
          have e89 : z4 89 = μ 89 := (kx z4 h4).2.2.2.2.2.2.k 89 (by decide) (by decide)
          have ecr := crN_eq (α := μ) (c := c) hG.1 (by omega)
          have loop : ∀ (j k : Nat), (k : Int) + j = μ 89 c → K_X12_unfair_101 G l (d + 60) (fun r' m' => y 64 5 = r' ∧ INV (N + 1) m') t c s (cntW (fun k => ∃ o k', crs μ c o k k') k) (k : Int) z4 := by
            intro j
            induction j with
            | zero =>
              intro k hk
              have b := cntW_le (p := fun k => ∃ o k', crs μ c o k k') k
              have ek : cntW (fun k => ∃ o k', crs μ c o k k') k = crN μ c := by rw [ecr, show (μ 89 c).toNat = k by omega]
              apply B_X12_unfair_101
              rw [e89, ek]
              rw [ek] at b
              exact ⟨by omega, by omega, by omega, fun _ => ⟨by omega, fun q2 => o1 (by omega), fun q2 => o2 q2⟩, fun q2 => by omega⟩
            | succ j ihj =>
              intro k hk
              have hi := ihj (k + 1) (by omega)
              rw [cntW, show ((k + 1 : Nat) : Int) = (k : Int) + 1 by omega] at hi
              apply B_X12_unfair_101
              rw [e89]
              refine ⟨by omega, by omega, by omega, fun q2 => by omega, fun _ => s_mCellOf hG (kx z4 h4) hlit (by omega) (by omega) (s_other hG (kx z4 h4) hlit (by omega) (by omega) (fun o ho => ⟨fun q2 => ?_, fun q2 => ?_⟩))⟩
              · rw [ind_f] at hi
                · exact hi
                · rcases ho with g | g
                  · exact fun ⟨a, b, q3⟩ => g.2 a b q3
                  · omega
              · rw [ind_t] at hi
                · exact hi
                · rcases ho with g | g
                  · omega
                  · exact ⟨o, g.2.1⟩
          exact loop (μ 89 c).toNat 0 (by omega)
        have k76 : ∀ z3, FrX [124, 125] [(74, 76)] m3 z3 → TL 124 125 z3 (z3 74 76) (L ++ (n1' μ t c s ++ n2' μ t c s)) → K_X12_unfair_76 G l (d + 60) (fun r' m' => y 64 5 = r' ∧ INV (N + 1) m') t c s z3 := by
          intro z3 h3 t3
          obtain ⟨o1, o2⟩ := one (s ≠ -1 ∧ rvl μ t c s) 3 z3 _ (fun m9 => K_X12_unfair_101 G l (d + 60) (fun r' m' => y 64 5 = r' ∧ INV (N + 1) m') t c s 0 0 m9) h3 t3 (by simp only [List.length_append]; omega) (fun z4 h4 t4 => k101 z4 h4 (by simp only [n3', List.append_assoc] at t4 ⊢; exact t4))
          apply B_X12_unfair_76
          refine ⟨by omega, fun q2 => o1 (fun q3 => q3.1 (by omega)), fun q2 => s_mHasRival hG hW (kx z3 h3) (kc z3 h3) hlit (slo_w hL hs (by omega)) (fun r4 g4 => ⟨fun q3 => o1 (fun q4 => (bit0 g4).mp q3 q4.2), fun q3 => o2 ⟨by omega, (bitne g4).mp q3⟩⟩)⟩
        have k52 : ∀ z2, FrX [124, 125] [(74, 76)] m3 z2 → TL 124 125 z2 (z2 74 76) (L ++ n1' μ t c s) → K_X12_unfair_52 G l (d + 60) (fun r' m' => y 64 5 = r' ∧ INV (N + 1) m') t c s z2 := by
          intro z2 h2 t2
          obtain ⟨o1, o2⟩ := one (s ≠ -1 ∧ ¬ pos μ c s t) 2 z2 _ (fun m9 => K_X12_unfair_76 G l (d + 60) (fun r' m' => y 64 5 = r' ∧ INV (N + 1) m') t c s m9) h2 t2 (by simp only [List.length_append]; omega) (fun z3 h3 t3 => k76 z3 h3 (by simp only [n2', List.append_assoc] at t3 ⊢; exact t3))
          apply B_X12_unfair_52
          refine ⟨by omega, fun q2 => o1 (fun q3 => q3.1 (by omega)), fun q2 => ?_⟩
          rw [kc z2 h2 s q2 (by omega)]
          exact ⟨by omega, by have := ind_01 (pos μ c s t); omega, fun q3 => o1 (fun q4 => q4.2 (ind_ne.mp q3)), fun q3 => o2 ⟨by omega, ind_eq.mp q3⟩⟩
        obtain ⟨o1, o2⟩ := one (s = -1) 1 z _ (fun m9 => K_X12_unfair_52 G l (d + 60) (fun r' m' => y 64 5 = r' ∧ INV (N + 1) m') t c s m9) fz tz (by omega) k52
        exact ⟨fun q2 => o1 (by omega), fun q2 => o2 (by omega)⟩
      · have hlit : ¬ lit μ (v : Int) := fun q2 => by have := q2.2.2; omega
        rw [NT, cite_f hlit, List.append_nil]; exact tz
  exact main 16 0 _ (by omega) (FrX.st.sub (by decide) (by decide)) ⟨by rw [st_s]; rfl, fun i hi => by simp [NT] at hi⟩
end Unfair2
