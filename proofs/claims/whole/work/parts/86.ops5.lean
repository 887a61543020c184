/-! clue, solution -/
section Ops5
variable {G : xG} {l : Launch} {d : Nat} {μ ν α : xMem} {P : Int → xMem → Prop} {PV' : xMem → Prop} {N : Int}
theorem gG.clue {S : List Nat} {T : List (Nat × Int)} (h : gG μ) (hf : FrX S T μ ν) (hd : dj [47, 48, 49, 50, 51, 52, 53, 109, 110, 111, 112, 113, 117, 118] [(46, 9), (46, 10)] S T = true) (h89 : ∀ c, lit μ c → ν 89 c = μ 89 c) : gG ν := by
  have e47 : ν 47 = μ 47 := hf.a hd (by decide)
  have e48 : ν 48 = μ 48 := hf.a hd (by decide)
  have e49 : ν 49 = μ 49 := hf.a hd (by decide)
  have e50 : ν 50 = μ 50 := hf.a hd (by decide)
  have e51 : ν 51 = μ 51 := hf.a hd (by decide)
  have e52 : ν 52 = μ 52 := hf.a hd (by decide)
  have e53 : ν 53 = μ 53 := hf.a hd (by decide)
  have e109 : ν 109 = μ 109 := hf.a hd (by decide)
  have e110 : ν 110 = μ 110 := hf.a hd (by decide)
  have e111 : ν 111 = μ 111 := hf.a hd (by decide)
  have e112 : ν 112 = μ 112 := hf.a hd (by decide)
  have e113 : ν 113 = μ 113 := hf.a hd (by decide)
  have e117 : ν 117 = μ 117 := hf.a hd (by decide)
  have e118 : ν 118 = μ 118 := hf.a hd (by decide)
  have f9 : ν 46 9 = μ 46 9 := hf.b hd (by decide)
  have f10 : ν 46 10 = μ 46 10 := hf.b hd (by decide)
  have eS : ∀ n, lenS ν n = lenS μ n := fun n => by induction n with | zero => rfl | succ n ih => rw [lenS, lenS, ih, e49]
  have eL : lit ν = lit μ := by funext c; unfold lit; rw [e117]
  have eC : cel ν = cel μ := by funext c k; unfold cel; rw [e109, e110, e118]
  have eX : ∀ c o k k', crs ν c o k k' ↔ crs μ c o k k' := by
    intro c o k k'
    unfold crs
    rw [eL, eC, e118]
    refine and_congr_right (fun lc => and_congr_right (fun lo => ?_))
    rw [h89 c lc, h89 o lo]
  obtain ⟨⟨w1, w2, w3, w4⟩, ⟨r1, r2, r3, r4, r5, r6⟩, g3⟩ := h
  refine ⟨⟨by rw [e117, e118]; exact w1, fun c hc => ?_, fun x x0 x1 => ?_, fun c k hc k0 k1 => ?_⟩, ⟨fun c c0 c1 => ?_, fun c hc => ?_, by rw [e50, e51, e111, e112]; exact r3, fun c o c0 c1 o0 o1 => ?_, by rw [f9, e117]; exact r5, by rw [f10, eS]; exact r6⟩, by rw [e52, e113]; exact g3⟩
  · rw [eL] at hc
    rw [e109, e110, e118, h89 c hc]
    exact w2 c hc
  · obtain ⟨q1, q2, q3, q4⟩ := w3 x x0 x1
    rw [e111, e112, eL, eC, e118]
    refine ⟨q1, q2, fun z => ?_, fun z => ?_⟩
    · obtain ⟨y1, y2, y3⟩ := q3 z
      rw [h89 _ y1]
      exact ⟨y1, y2, y3⟩
    · obtain ⟨y1, y2, y3⟩ := q4 z
      rw [h89 _ y1]
      exact ⟨y1, y2, y3⟩
  · rw [eL] at hc
    rw [h89 c hc] at k1
    rw [e118, e111, e112, eC]
    exact w4 c k hc k0 k1
  · rw [e49, e117, r1 c c0 c1]
    by_cases z : μ 117 c = 1
    · rw [if_pos z, if_pos z, h89 c ⟨c0, c1, z⟩]
    · rw [if_neg z, if_neg z]
  · rw [eL] at hc
    rw [e47, e48, e109, e110, e118]
    exact r2 c hc
  · rw [e53]
    rcases r4 c o c0 c1 o0 o1 with q | ⟨k', q⟩
    · exact Or.inl ⟨q.1, fun k k' z => q.2 k k' ((eX c o k k').mp z)⟩
    · exact Or.inr ⟨k', (eX c o _ k').mpr q⟩
def newC (μ : xMem) (c len n : Int) : Prop := (0 ≤ c ∧ c < 16) ∧ (1 ≤ len ∧ len ≤ 10) ∧ μ 74 23 < 60 ∧ (2 ≤ n ∧ n ≤ 8) ∧ (0 < μ 89 c → μ 89 c = len) ∧ ∀ i, 0 ≤ i → i < n → 0 ≤ μ 1 i ∧ μ 1 i < μ 74 20
theorem j8w {x n : Int} (h : 0 ≤ x ∧ x ≤ 255) (hn : 0 ≤ n ∧ n ≤ 120) : (0 ≤ j8 x ∧ j8 x < n) ↔ (0 ≤ x ∧ x < n) := by unfold j8; omega
/-- what the model changes when it is told a clue -/
def mdC (μ ν ν' : xMem) (c len n : Int) : Prop := FrX [85, 86, 87, 88, 89] [(74, 0), (74, 2), (74, 3), (74, 5), (74, 23)] ν ν' ∧ ν' 74 2 = 0 ∧ ν' 74 5 = μ 74 5 + 1 ∧ ν' 74 23 = μ 74 23 + 1 ∧ (∀ i, ν' 85 i = if i = μ 74 23 then c else μ 85 i) ∧ (∀ i, ν' 86 i = if i = μ 74 23 then μ 74 4 else μ 86 i) ∧ (∀ i, ν' 87 i = if i = μ 74 23 then n else μ 87 i) ∧ (∀ i, ν' 89 i = if i = c then len else μ 89 i) ∧ ∀ i, ν' 88 i = if 8 * μ 74 23 ≤ i ∧ i < 8 * μ 74 23 + n then μ 1 (i - 8 * μ 74 23) else μ 88 i
theorem s_mClue {c len : Int} (hc : iR c) (hlen : iR len) (hT : gT μ) (hW : gW μ) (hC : gC μ) (hA : MA μ ν) (q75 : ν 75 = μ 75) (q2 : ν 74 2 = μ 0 1) (q4 : ν 74 4 = μ 74 4) (q5 : ν 74 5 = μ 74 5) (h1 : ¬ newC μ c len (μ 0 1) → P (-1) (st2 (st2 (st2 ν 74 0 0) 74 3 (μ 0 1)) 74 2 0)) (h2 : newC μ c len (μ 0 1) → ∀ ν', mdC μ ν ν' c len (μ 0 1) → P (μ 0 1) ν') : CI G l (d + 4) mX12_clue [xr G 74, xi c, xi len] ν P := by
  have hb := hW.1.1
  have tb := hT.1
  have hct := hC.2.1
  apply E_X12_clue
  refine s_taken ?_
  have em : st2 (st2 (st2 ν 74 0 0) 74 3 (st2 ν 74 0 0 74 2)) 74 2 0 = st2 (st2 (st2 ν 74 0 0) 74 3 (μ 0 1)) 74 2 0 := by rw [st_o _ _ _ _ _ (show (2 : Int) ≠ 0 by decide), q2]
  rw [em]
  generalize hm0 : st2 (st2 (st2 ν 74 0 0) 74 3 (μ 0 1)) 74 2 0 = m0 at *
  have f0 : FrX [] [(74, 0), (74, 3), (74, 2)] ν m0 := by rw [← hm0]; exact (FrX.st (k := 74) (i := 0)).tr ((FrX.st (k := 74) (i := 3)).tr (FrX.st (k := 74) (i := 2)))
  have hA0 : MA μ m0 := hA.tr (MA.of f0 (by decide))
  have r3 : m0 74 3 = μ 0 1 := by rw [← hm0]; simp [st2]
  have r2 : m0 74 2 = 0 := by rw [← hm0]; simp [st2]
  have r20 : m0 74 20 = μ 74 20 := hA0.2 20 (by decide) (by decide)
  have r23 : m0 74 23 = μ 74 23 := hA0.2 23 (by decide) (by decide)
  have r4 : m0 74 4 = μ 74 4 := by rw [f0.f 74 4 (by decide)]; exact q4
  have r5 : m0 74 5 = μ 74 5 := by rw [f0.f 74 5 (by decide)]; exact q5
  have r75 : m0 75 = μ 75 := by rw [f0.k 75 (by decide)]; exact q75
  have r85 : m0 85 = μ 85 := hA0.k 85 (by decide) (by decide)
  have r86 : m0 86 = μ 86 := hA0.k 86 (by decide) (by decide)
  have r87 : m0 87 = μ 87 := hA0.k 87 (by decide) (by decide)
  have r88 : m0 88 = μ 88 := hA0.k 88 (by decide) (by decide)
  have r89 : m0 89 = μ 89 := hA0.k 89 (by decide) (by decide)
  generalize hnn : μ 0 1 = n at *
  refine s_isIn hc (by decide) (by decide) (fun r1 g1 => ⟨fun z => h1 (fun q => (bit0 g1).mp z (by have := q.1; omega)), fun z => ?_⟩)
  have wc := (bitne g1).mp z
  rw [r3]
  refine s_isIn (by omega) (by decide) (by decide) (fun r2' g2 => ⟨fun z2 => h1 (fun q => (bit0 g2).mp z2 (by have := q.2.2.2.1; omega)), fun z2 => s_isIn hlen (by decide) (by decide) (fun r3' g3 => ⟨fun z3 => h1 (fun q => (bit0 g3).mp z3 (by have := q.2.1; omega)), fun z3 => ?_⟩)⟩)
  have wn := (bitne g2).mp z2
  have wl := (bitne g3).mp z3
  have cl := hC.2.2.2.2.2.1 c wc.1 (by omega)
  -- the copy
  have k105 : newC μ c len n → ∀ (m : Nat) (v : Int) (x : xMem), v + m = n → 0 ≤ v → FrX [88] [] m0 x → (∀ i, x 88 i = if 8 * μ 74 23 ≤ i ∧ i < 8 * μ 74 23 + v then μ 1 (i - 8 * μ 74 23) else μ 88 i) → K_X12_clue_105 G l (d + 4) P c len v x := by
    intro nw m
    induction m with
    | zero =>
      intro v x hv v0 fx hx
      apply B_X12_clue_105
      rw [fx.f 74 3 (by decide), fx.f 74 23 (by decide), fx.f 74 4 (by decide), fx.f 74 5 (by decide), r3, r23, r4, r5]
      have := nw.2.2.1
      refine ⟨by omega, by omega, fun _ => ⟨by omega, by omega, h2 nw _ ⟨?_, ?_, ?_, ?_, fun i => ?_, fun i => ?_, fun i => ?_, fun i => ?_, fun i => ?_⟩⟩, fun q => by omega⟩
      · exact (f0.tr (fx.tr ((FrX.sa (k := 87)).tr ((FrX.sa (k := 85)).tr ((FrX.sa (k := 86)).tr ((FrX.st (k := 74) (i := 23)).tr ((FrX.sa (k := 89)).tr (FrX.st (k := 74) (i := 5))))))))).sub (by decide) (by decide)
      · simp [st2]
        rw [fx.f 74 2 (by decide)]; exact r2
      · simp [st2]
      · simp [st2]
      · simp [st2]; rw [fx.k 85 (by decide), r85]
      · simp [st2]; rw [fx.k 86 (by decide), r86]
      · simp [st2]; rw [fx.k 87 (by decide), r87]
      · simp [st2]; rw [fx.k 89 (by decide), r89]
      · simp [st2]
        rw [hx i, show v = n by omega]
    | succ m ih =>
      intro v x hv v0 fx hx
      have bt := hT.2.2 v v0 (by omega)
      have sm := nw.2.2.2.2.2 v v0 (by omega)
      have e8 : μ 75 v = μ 1 v := by rw [bt.2, j8_id (by omega)]
      have := nw.2.2.1
      apply B_X12_clue_105
      rw [fx.f 74 3 (by decide), fx.f 74 23 (by decide), r3, r23, fx.k 75 (by decide), r75, e8]
      refine ⟨by omega, by omega, fun q => by omega, fun _ => ⟨by omega, by omega, ih (v + 1) _ (by omega) (by omega) ((fx.tr FrX.sa).sub (by decide) (by decide)) (fun i => ?_)⟩⟩
      rw [st_i]
      by_cases c : i = 8 * μ 74 23 + v
      · rw [if_pos c, if_pos (by omega)]; congr 1; omega
      · rw [if_neg c, hx i]
        by_cases c2 : 8 * μ 74 23 ≤ i ∧ i < 8 * μ 74 23 + v
        · rw [if_pos c2, if_pos (by omega)]
        · rw [if_neg c2, if_neg (by omega)]
  have k74 : μ 74 23 < 60 → (0 < μ 89 c → μ 89 c = len) → ∀ (m : Nat) (v : Int), v + m = n → 0 ≤ v → (∀ i, 0 ≤ i → i < v → 0 ≤ μ 1 i ∧ μ 1 i < μ 74 20) → K_X12_clue_74 G l (d + 4) P c len v m0 := by
    intro h60 hll m
    induction m with
    | zero =>
      intro v hv v0 hi
      apply B_X12_clue_74
      rw [r3]
      refine ⟨by omega, by omega, fun _ => k105 ⟨by omega, by omega, h60, by omega, hll, fun i i0 i1 => hi i i0 (by omega)⟩ n.toNat 0 m0 (by omega) (by omega) FrX.rf (fun i => ?_), fun q => by omega⟩
      rw [if_neg (by omega), r88]
    | succ m ih =>
      intro v hv v0 hi
      have bt := hT.2.2 v v0 (by omega)
      have js := j8w bt.1 hb
      apply B_X12_clue_74
      rw [r3, r75, bt.2]
      refine ⟨by omega, by omega, fun q => by omega, fun _ => ⟨by omega, s_isWord (n := μ 74 20) (by unfold j8; omega) (by omega) r20 (fun r1 hr1 => ⟨fun q => ih (v + 1) (by omega) (by omega) (fun i i0 i1 => ?_), fun q => h1 (fun nw => (bit0 hr1).mp q (js.mpr (nw.2.2.2.2.2 v v0 (by omega))))⟩)⟩⟩
      rcases (show i < v ∨ i = v by omega) with e | e
      · exact hi i i0 e
      · rw [e]; exact js.mp ((bitne hr1).mp q)
  have k61 : (0 < μ 89 c → μ 89 c = len) → K_X12_clue_61 G l (d + 4) P c len m0 := by
    intro hll
    apply B_X12_clue_61
    rw [r23]
    exact ⟨by omega, fun z => k74 (by omega) hll n.toNat 0 (by omega) (by omega) (fun i i0 i1 => by omega), fun z => h1 (fun q => by have := q.2.2.1; omega)⟩
  rw [r89]
  exact ⟨by omega, by omega, fun z4 => k61 (by omega), fun z4 => ⟨hlen, fun z5 => h1 (fun q => z5 (q.2.2.2.2.1 z4)), fun z5 => k61 (fun _ => z5)⟩⟩
/-- what the class changes when it is told a clue -/
def xdC (μ m : xMem) (c len n : Int) : Prop := FrX [21, 22, 23, 24, 25] [(0, 1), (19, 4), (20, 2)] μ m ∧ m 0 1 = 0 ∧ m 20 2 = μ 74 23 + 1 ∧ (m 19 4 = if μ 89 c = 0 then μ 19 4 + 1 else μ 19 4) ∧ (∀ i, m 21 i = if i = μ 74 23 then μ 0 2 else μ 21 i) ∧ (∀ i, m 22 i = if i = μ 74 23 then c else μ 22 i) ∧ (∀ i, m 24 i = if i = μ 74 23 then n else μ 24 i) ∧ (∀ i, m 25 i = if i = c then len else μ 25 i) ∧ ∀ i, m 23 i = if μ 74 23 * 8 ≤ i ∧ i < μ 74 23 * 8 + n then μ 1 (i - μ 74 23 * 8) else μ 23 i
theorem s_tell {c len n : Int} (hc : iR c) (hlen : iR len) (hn : 0 ≤ n ∧ n ≤ 180) (hT : gT μ) (hC : gC μ) (hall : ∀ i, 0 ≤ i → i < n → 0 ≤ μ 1 i ∧ μ 1 i < μ 74 20) (h1 : ¬ newC μ c len n → P (-1) (st2 μ 0 1 0)) (h2 : newC μ c len n → ∀ m, xdC μ m c len n → P n m) : CI G l (d + 3) mX0_tell [xr G 19, xi c, xi len, xr G 1, xi n, xi (μ 0 2)] (st2 μ 0 1 0) P := by
  obtain ⟨b1, b2, b3, b4, b5, b6, b7⟩ := id hC
  have e20 : st2 μ 0 1 0 20 2 = μ 74 23 := by rw [st_n _ _ _ _ _ _ (by decide)]; exact b1
  have e25 : st2 μ 0 1 0 25 = μ 25 := by rw [st_f _ _ _ _ _ (by decide)]
  apply E_X0_tell (k3 := 1) (n3 := 180) rfl (by decide)
  refine ⟨hc, fun z => h1 (fun q => by have := q.1; omega), fun z => ⟨fun z2 => h1 (fun q => by have := q.1; omega), fun z2 => ⟨hlen, fun z3 => h1 (fun q => by have := q.2.1; omega), fun z3 => ⟨fun z4 => h1 (fun q => by have := q.2.1; omega), fun z4 => s_isFull log20 (by omega) (fun r g => ⟨fun y => ⟨by omega, fun z5 => h1 (fun q => by have := q.2.2.2.1; omega), fun z5 => ⟨fun z6 => h1 (fun q => by have := q.2.2.2.1; omega), fun z6 => ?_⟩⟩, fun y => h1 (fun q => ?_)⟩)⟩⟩⟩⟩
  · have nf := (bit0 g).mp y
    rw [e20] at nf
    obtain ⟨l1, l2⟩ := b6 c z z2
    rw [e25, l1]
    have k86 : newC μ c len n → ∀ m0, FrX [] [(0, 1), (19, 4)] μ m0 → m0 0 1 = 0 → (m0 19 4 = if μ 89 c = 0 then μ 19 4 + 1 else μ 19 4) → K_X0_tell_86 G l (d + 3) P 1 180 c len n (μ 0 2) m0 := by
      intro nw m0 f0 p1 p2
      apply B_X0_tell_86 (k3 := 1) (n3 := 180) rfl (by decide)
      have e20' : st2 m0 25 c len 20 2 = μ 74 23 := by rw [st_n _ _ _ _ _ _ (by decide), f0.f 20 2 (by decide)]; exact b1
      refine ⟨⟨z, z2⟩, s_add log20 (by omega) (fun q => by omega) (fun _ => ?_)⟩
      rw [e20']
      have := nw.2.2.1
      refine ⟨by omega, by omega, by omega, by omega, by omega, by omega, h2 nw _ ⟨?_, ?_, ?_, ?_, fun i => ?_, fun i => ?_, fun i => ?_, fun i => ?_, fun i => ?_⟩⟩
      · exact (f0.tr ((FrX.sa (k := 25)).tr ((FrX.sa (k := 21)).tr ((FrX.sa (k := 22)).tr ((FrX.st (k := 20) (i := 2)).tr ((FrX.sa (k := 24)).tr (FrX.cp (kd := 23)))))))).sub (by decide) (by decide)
      · simp [cpy, st2]; exact p1
      · simp [cpy, st2]
      · simp [cpy, st2]; exact p2
      · simp [cpy, st2]; rw [f0.k 21 (by decide)]
      · simp [cpy, st2]; rw [f0.k 22 (by decide)]
      · simp [cpy, st2]; rw [f0.k 24 (by decide)]
      · simp [cpy, st2]; rw [f0.k 25 (by decide)]
      · simp [cpy, st2]; rw [f0.k 1 (by decide), f0.k 23 (by decide)]
    have k67 : newC μ c len n → K_X0_tell_67 G l (d + 3) P 1 180 c len n (μ 0 2) (st2 μ 0 1 0) := by
      intro nw
      apply B_X0_tell_67 (k3 := 1) (n3 := 180) rfl (by decide)
      rw [e25, l1]
      refine ⟨⟨z, z2⟩, by omega, fun q => k86 nw _ (FrX.st.sub (by decide) (by decide)) (st_s _ _ _ _) ?_, fun q => k86 nw _ ((FrX.st (k := 0) (i := 1)).tr (FrX.st (k := 19) (i := 4))) ?_ ?_⟩
      · rw [if_neg q, st_n _ _ _ _ _ _ (by decide)]
      · simp [st2]
      · rw [if_pos q, st_s, st_n _ _ _ _ _ _ (by decide)]
    exact ⟨⟨z, z2⟩, by omega, fun q => k67 ⟨⟨z, z2⟩, ⟨z3, z4⟩, by omega, ⟨z5, z6⟩, fun q2 => by omega, hall⟩, fun q => ⟨fun q2 => k67 ⟨⟨z, z2⟩, ⟨z3, z4⟩, by omega, ⟨z5, z6⟩, fun _ => q2, hall⟩, fun q2 => h1 (fun nw => q2 (nw.2.2.2.2.1 q))⟩⟩
  · have := (bitne g).mp y
    have := q.2.2.1
    omega
theorem op_clue (hI : INV N μ) (hN9 : 0 ≤ N ∧ N ≤ 600) {c len : Int} (hc : iR c) (hlen : iR len) : SIM G l (d + 60) mX11_clue mX12_clue [xi c, xi len] N μ := by
  obtain ⟨hT, hD, hO, hW, hM, hS, hC, hL, hF, hU, hR, hG, hK, hP, hN⟩ := id hI
  have hk5 := hK.1
  obtain ⟨hw, hWD, hr, hwd⟩ := id hW
  have hbw := hw.1
  have tb := hT.1
  obtain ⟨b1, b2, b3, b4, b5, b6, b7⟩ := id hC
  have fail : ¬ newC μ c len (μ 0 1) → CI G l (d + 60) mX12_clue [xr G 74, xi c, xi len] (st2 μ 0 1 0) (fun r' m' => -1 = r' ∧ INV (N + 1) m') := by
    intro hz
    refine s_mClue hc hlen hT hW hC (MA.of (FrX.st (k := 0) (i := 1)) (by decide)) (st_f _ _ _ _ _ (by decide)) (by rw [st_n _ _ _ _ _ _ (by decide)]; exact hT.2.1) (st_n _ _ _ _ _ _ (by decide)) (st_n _ _ _ _ _ _ (by decide)) (fun _ => ⟨rfl, ?_⟩) (fun y => absurd y hz)
    have aX := (FrX.st (μ := μ) (k := 0) (i := 1) (v := 0)).tr ((FrX.st (μ := st2 μ 0 1 0) (k := 74) (i := 0) (v := 0)).tr ((FrX.st (k := 74) (i := 3) (v := μ 0 1)).tr (FrX.st (k := 74) (i := 2) (v := 0))))
    have hA : MA μ _ := MA.of aX (by decide)
    exact ⟨⟨by simp [st2], by simp [st2], fun i i0 i1 => by simpa [st2] using hT.2.2 i i0 i1⟩, hD.kept aX (by decide), hO.kept aX (by decide), hW.kept aX (by decide), hM.kept aX (by decide), hS.kept aX (by decide), hC.kept aX (by decide), hL.kept aX (by decide), hF.kept aX (by decide), hU.kept aX (by decide), hR.kept aX (by decide), hG.kept aX (by decide), (hK.kept hA aX (by decide)).le (by omega), hP.kept hA aX (by decide), (hN.kept aX (by decide)).le (by omega)⟩
  unfold SIM
  apply E_X11_clue
  refine s_takeTape hT ?_
  have main : ∀ (k : Nat) (v : Int), v + k = μ 0 1 → 0 ≤ v → (∀ i, 0 ≤ i → i < v → 0 ≤ μ 1 i ∧ μ 1 i < μ 74 20) → K_X11_clue_8 G l (d + 60) (fun r m => CI G l (d + 60) mX12_clue [xr G 74, xi c, xi len] m (fun r' m' => r = r' ∧ INV (N + 1) m')) c len (μ 0 1) v (st2 μ 0 1 0) := by
    intro k
    induction k with
    | zero =>
      intro v hv v0 hi
      apply B_X11_clue_8
      rw [st_o _ _ _ _ _ (show (2 : Int) ≠ 1 by decide)]
      refine ⟨by omega, by omega, fun _ => s_tell hc hlen tb hT hC (fun i i0 i1 => hi i i0 (by omega)) (fun nw => fail nw) (fun nw m hm => ?_), fun z => by omega⟩
      obtain ⟨fX, x01, x20, x19, x21, x22, x24, x25, x23⟩ := hm
      refine s_mClue hc hlen hT hW hC (MA.of fX (by decide)) (fX.k 75 (by decide)) (by rw [fX.f 74 2 (by decide)]; exact hT.2.1) (fX.f 74 4 (by decide)) (fX.f 74 5 (by decide)) (fun y => absurd nw y) (fun _ ν' hν => ⟨rfl, ?_⟩)
      generalize hnn : μ 0 1 = n at *
      obtain ⟨gf, y2, y5, y23, y85, y86, y87, y89, y88⟩ := hν
      have aX := fX.tr gf
      obtain ⟨n1, n2, n3, n4, n5, n6⟩ := nw
      have z20' : ν' 74 20 = μ 74 20 := aX.f 74 20 (by decide)
      have z4 : ν' 74 4 = μ 74 4 := aX.f 74 4 (by decide)
      have z77 : ν' 77 = μ 77 := aX.k 77 (by decide)
      have z01 : ν' 0 1 = 0 := by rw [gf.f 0 1 (by decide)]; exact x01
      have z20 : ν' 20 2 = μ 74 23 + 1 := by rw [gf.f 20 2 (by decide)]; exact x20
      have z19 : ν' 19 4 = if μ 89 c = 0 then μ 19 4 + 1 else μ 19 4 := by rw [gf.f 19 4 (by decide)]; exact x19
      have z21 : ∀ i, ν' 21 i = if i = μ 74 23 then μ 0 2 else μ 21 i := fun i => by rw [gf.k 21 (by decide)]; exact x21 i
      have z22 : ∀ i, ν' 22 i = if i = μ 74 23 then c else μ 22 i := fun i => by rw [gf.k 22 (by decide)]; exact x22 i
      have z24 : ∀ i, ν' 24 i = if i = μ 74 23 then n else μ 24 i := fun i => by rw [gf.k 24 (by decide)]; exact x24 i
      have z25 : ∀ i, ν' 25 i = if i = c then len else μ 25 i := fun i => by rw [gf.k 25 (by decide)]; exact x25 i
      have z23 : ∀ i, ν' 23 i = if μ 74 23 * 8 ≤ i ∧ i < μ 74 23 * 8 + n then μ 1 (i - μ 74 23 * 8) else μ 23 i := fun i => by rw [gf.k 23 (by decide)]; exact x23 i
      have o85 : ∀ k, k < μ 74 23 → ν' 85 k = μ 85 k := fun k hk => by rw [y85, if_neg (by omega)]
      have o86 : ∀ k, k < μ 74 23 → ν' 86 k = μ 86 k := fun k hk => by rw [y86, if_neg (by omega)]
      have o87 : ∀ k, k < μ 74 23 → ν' 87 k = μ 87 k := fun k hk => by rw [y87, if_neg (by omega)]
      have o89 : ∀ k, 0 < μ 89 k → ν' 89 k = μ 89 k := fun k hk => by
        rw [y89]
        split
        · rename_i e; rw [e] at hk ⊢; exact (n5 hk).symm
        · rfl
      have ocw : ∀ k p, 0 ≤ k → k < μ 74 23 → 0 ≤ p → p < μ 87 k → cwd ν' k p = cwd μ k p := fun k p k0 k1 p0 p1 => by
        have := (b4 k k0 k1).2.2.2.2.2.2.1.1
        unfold cwd
        rw [y88, if_neg (by omega)]
      have ncw : ∀ p, 0 ≤ p → p < n → cwd ν' (μ 74 23) p = μ 1 p := fun p p0 p1 => by
        unfold cwd
        rw [y88, if_pos (by omega)]
        congr 1
        omega
      have hE : EXT μ ν' := by
        refine ⟨⟨by omega, fun v v0 v1 => ⟨by rw [z77], fun i _ _ => by rw [aX.k 76 (by decide)]⟩⟩, ⟨by rw [aX.f 74 21 (by decide)]; exact Int.le_refl _, fun k _ _ => ?_⟩, ⟨by rw [aX.f 74 22 (by decide)]; exact Int.le_refl _, fun k _ _ => ?_⟩, ⟨by omega, fun k k0 k1 => ⟨o85 k k1, o87 k k1, fun p p0 p1 => ocw k p k0 k1 p0 p1⟩⟩, fun c' _ _ h0 => o89 c' h0⟩
        · exact ⟨by rw [aX.k 79 (by decide)], by rw [aX.k 80 (by decide)], by rw [aX.k 81 (by decide)]⟩
        · exact ⟨by rw [aX.k 82 (by decide)], by rw [aX.k 83 (by decide)], by rw [aX.k 84 (by decide)]⟩
      have td := hD.1
      have td' := hD.2
      refine ⟨⟨by omega, by omega, fun i i0 i1 => by rw [aX.k 1 (by decide), aX.k 75 (by decide)]; exact hT.2.2 i i0 i1⟩, hD.kept aX (by decide), hO.kept aX (by decide), hW.kept aX (by decide), hM.kept aX (by decide), hS.kept aX (by decide), ⟨by omega, by omega, fun k k0 k1 => ?_, fun k k0 k1 => ?_, fun i j i0 ij j1 => ?_, fun c' c0 c1 => ?_, ?_⟩, ?_, hF.kept aX (by decide), hU.kept aX (by decide), hR.kept aX (by decide), hG.clue aX (by decide) (fun c' hc' => o89 c' (by have := (hG.1.2.1 c' hc').2.2.1; omega)), hK.grown y5 (aX.f 74 26 (by decide)) (aX.f 74 27 (by decide)) (aX.f 74 56 (by decide)), hP.ext hw hM.1 hC hE aX (by decide), (hN.kept aX (by decide)).le (by omega)⟩
      · rw [z21, z22]
        have := b3 k k0 k1
        constructor <;> (split <;> omega)
      · rcases (show k < μ 74 23 ∨ k = μ 74 23 by omega) with e | e
        · obtain ⟨q1, q2, q3, q4, q5, q6, ⟨q7, q7'⟩, q8⟩ := b4 k k0 e
          rw [z21, if_neg (by omega), o86 k e, z4, z22, if_neg (by omega), o85 k e, o89 _ q5, z24, if_neg (by omega), o87 k e]
          refine ⟨q1, q2, q3, q4, q5, q6, ⟨by rw [o87 k e]; exact q7, fun p p0 p1 => by rw [o87 k e] at p1; rw [ocw k p k0 e p0 p1, z20']; exact q7' p p0 p1⟩, fun p p0 p1 => ?_⟩
          rw [ocw k p k0 e p0 p1, z23, if_neg (by omega)]
          exact q8 p p0 p1
        · subst e
          rw [z21, if_pos rfl, y86 (μ 74 23), if_pos rfl, z4, z22, if_pos rfl, y85 (μ 74 23), if_pos rfl, y89 c, if_pos rfl, z24, if_pos rfl, y87 (μ 74 23), if_pos rfl]
          refine ⟨by omega, by omega, rfl, n1, by omega, rfl, ⟨by rw [y87 (μ 74 23), if_pos rfl]; exact n4, fun p p0 p1 => by rw [y87 (μ 74 23), if_pos rfl] at p1; rw [ncw p p0 p1, z20']; exact n6 p p0 p1⟩, fun p p0 p1 => ?_⟩
          rw [ncw p p0 p1, z23, if_pos (by omega)]
          congr 1
          omega
      · rcases (show j < μ 74 23 ∨ j = μ 74 23 by omega) with e | e
        · rw [o86 i (by omega), o86 j e]
          exact b5 i j i0 ij e
        · subst e
          rcases (show i < μ 74 23 ∨ i = μ 74 23 by omega) with e | e
          · rw [o86 i e, y86 (μ 74 23), if_pos rfl]
            have := (b4 i i0 e).2.1
            omega
          · rw [e]; exact Int.le_refl _
      · rw [z25, y89]
        have := b6 c' c0 c1
        split
        · exact ⟨rfl, by omega, by omega⟩
        · exact this
      · rw [z19, b7]
        by_cases e0 : μ 89 c = 0
        · rw [if_pos e0]
          have e1 := cntW_one (p := fun c' => 0 < μ 89 c') n1.1 (show ¬ 0 < μ 89 c by omega) 16
          rw [if_pos (by omega)] at e1
          rw [← e1]
          refine cntW_congr 16 (fun v v0 v1 => ?_)
          rw [y89]
          by_cases e2 : v = c
          · rw [if_pos e2]; exact ⟨fun _ => by omega, fun _ => Or.inr e2⟩
          · rw [if_neg e2]; exact ⟨fun q => q.elim id (fun q => absurd q e2), Or.inl⟩
        · rw [if_neg e0]
          refine cntW_congr 16 (fun v v0 v1 => ?_)
          rw [y89]
          by_cases e2 : v = c
          · rw [if_pos e2, e2]
            have := (b6 c n1.1 n1.2).2
            exact ⟨fun _ => by omega, fun _ => by omega⟩
          · rw [if_neg e2]
      · obtain ⟨a1, a2, a3, a4, a5⟩ := id hL
        unfold gL
        rw [aX.k 55 (by decide), aX.k 56 (by decide), aX.k 57 (by decide), z77, aX.k 114 (by decide), aX.k 115 (by decide), aX.k 116 (by decide), aX.f 54 2 (by decide), aX.f 74 67 (by decide), z4, z20']
        refine ⟨a1, a2, a3, fun k k0 k1 => ?_, a5⟩
        obtain ⟨q1, q2, q3, q4, q5, q6, q7⟩ := a4 k k0 k1
        have := (hw.2 _ q6.1 q6.2).1
        exact ⟨q1, q2, q3, q4, q5, q6, by rw [o89 _ (by omega)]; exact q7⟩
    | succ k ih =>
      intro v hv v0 hi
      have bt := (hT.2.2 v v0 (by omega)).1
      apply B_X11_clue_8
      rw [st_n _ _ _ _ _ _ (show (1 : Nat) ≠ 0 by decide)]
      refine ⟨by omega, by omega, fun z => by omega, fun _ => ⟨by omega, s_hasWord (n := μ 74 20) (by omega) (by omega) (by rw [st_n _ _ _ _ _ _ (by decide)]; exact hr.1) (fun r g => ⟨fun z => ih (v + 1) (by omega) (by omega) (fun i i0 i1 => ?_), fun z => fail (fun q => (bit0 g).mp z (q.2.2.2.2.2 v v0 (by omega)))⟩)⟩⟩
      rcases (show i < v ∨ i = v by omega) with e | e
      · exact hi i i0 e
      · rw [e]; exact (bitne g).mp z
  exact main (μ 0 1).toNat 0 (by omega) (by omega) (fun i i0 i1 => by omega)
theorem s_hasLight {c : Int} (hG : gG μ) (e : ν 49 = μ 49) (hc : iR c) (h : ∀ r, bit r (lit μ c) → P r ν) : CI G l (d + 1) mX2_hasLight [xr G 46, xi c] ν P := by
  apply E_X2_hasLight
  rw [e]
  refine ⟨hc, fun z => h 0 (Or.inr ⟨rfl, fun q => by have := q.1; omega⟩), fun z => ⟨fun z2 => h 0 (Or.inr ⟨rfl, fun q => by have := q.2.1; omega⟩), fun z2 => ?_⟩⟩
  have e1 := hG.2.1.1 c z z2
  by_cases q : μ 117 c = 1
  · have := (hG.1.2.1 c ⟨z, z2, q⟩).2.2.1
    rw [if_pos q] at e1
    rw [e1]
    exact ⟨⟨z, z2⟩, by omega, fun y => by omega, fun _ => h 1 (Or.inl ⟨rfl, z, z2, q⟩)⟩
  · rw [if_neg q] at e1
    rw [e1]
    exact ⟨⟨z, z2⟩, by decide, fun _ => h 0 (Or.inr ⟨rfl, fun y => q y.2.2⟩), fun y => absurd y (by decide)⟩
theorem s_isLight {c : Int} (hG : gG μ) (e : ν 117 = μ 117) (hc : iR c) (h : ∀ r, bit r (lit μ c) → P r ν) : CI G l (d + 2) mX12_isLight [xr G 74, xi c] ν P := by
  apply E_X12_isLight
  refine s_isIn hc (by decide) (by decide) (fun r hr => ⟨fun z => h 0 (Or.inr ⟨rfl, fun q => (bit0 hr).mp z ⟨q.1, by have := q.2.1; omega⟩⟩), fun z => ?_⟩)
  rw [e]
  have w := (bitne hr).mp z
  have h01 := (hG.1.1 c w.1 (by omega)).1
  exact ⟨by omega, by omega, fun y => h 0 (Or.inr ⟨rfl, fun q => by have := q.2.2; omega⟩), fun y => h 1 (Or.inl ⟨rfl, w.1, by omega, by omega⟩)⟩
theorem op_solution (hI : INV N μ) {c w : Int} (hc : iR c) (hv : iR w) : SIM G l (d + 60) mX11_solution mX12_solution [xi c, xi w] N μ := by
  obtain ⟨hT, hD, hO, hW, hM, hS, hC, hL, hF, hU, hR, hG, hK, hP, hN⟩ := id hI
  obtain ⟨hw, hWD, hr, hwd⟩ := id hW
  have hbw := hw.1
  obtain ⟨a1, a2, a3, a4, a5⟩ := id hL
  have fail : ¬ (lit μ c ∧ (0 ≤ w ∧ w < μ 74 20) ∧ μ 77 w = μ 89 c ∧ μ 74 67 < 60) → CI G l (d + 60) mX12_solution [xr G 74, xi c, xi w] μ (fun r' m' => 0 = r' ∧ INV (N + 1) m') := by
    intro hz
    apply E_X12_solution
    refine s_isLight hG (st_f _ _ _ _ _ (by decide)) hc (fun r1 g1 => ⟨fun _ => ⟨rfl, hI.thr⟩, fun z => s_isWord hv (by omega) (st_o _ _ _ _ _ (by decide)) (fun r2 g2 => ⟨fun _ => ⟨rfl, hI.thr⟩, fun z2 => ?_⟩)⟩)
    have w1 := (bitne g1).mp z
    have w2 := (bitne g2).mp z2
    have lw := (hw.2 w w2.1 w2.2).1
    have lc := (hG.1.2.1 c w1).2.2.1
    have c0 := w1.1
    have c1 := w1.2.1
    rw [st_n _ _ _ _ _ _ (show (77 : Nat) ≠ 74 by decide), st_n _ _ _ _ _ _ (show (89 : Nat) ≠ 74 by decide), st_o _ _ _ _ _ (show (67 : Int) ≠ 0 by decide)]
    exact ⟨by omega, by omega, by omega, by omega, fun _ => ⟨rfl, hI.thr⟩, fun y => ⟨by omega, fun y2 => absurd ⟨w1, w2, y, by omega⟩ hz, fun _ => ⟨rfl, hI.thr⟩⟩⟩
  unfold SIM
  apply E_X11_solution
  refine s_hasLight hG rfl hc (fun r1 g1 => ⟨fun z => fail (fun q => (bit0 g1).mp z q.1), fun z => s_hasWord hv (n := μ 74 20) (by omega) hr.1 (fun r2 g2 => ⟨fun z2 => fail (fun q => (bit0 g2).mp z2 q.2.1), fun z2 => ?_⟩)⟩)
  have w1 := (bitne g1).mp z
  have w2 := (bitne g2).mp z2
  have lw := (hw.2 w w2.1 w2.2).1
  have lc := (hG.1.2.1 c w1).2.2.1
  have c0 := w1.1
  have c1 := w1.2.1
  have e49 := hG.2.1.1 c c0 c1
  rw [if_pos w1.2.2] at e49
  rw [(hr.2 w w2.1 w2.2).1, e49]
  refine ⟨by omega, by omega, by omega, by omega, fun y => ?_, fun y => fail (fun q => y q.2.2.1)⟩
  apply E_X2_addSolution
  refine s_add log54 (by omega) (fun q => ⟨fun q2 => absurd rfl q2, fun _ => ⟨Or.inl rfl, fail (fun q2 => by have := q2.2.2.2; omega)⟩⟩) (fun q => ⟨fun _ => ⟨by omega, Or.inr rfl, ?_⟩, fun q2 => by omega⟩)
  rw [a1]
  have fX := (FrX.sa (μ := μ) (k := 55) (i := μ 74 67) (v := μ 0 2)).tr ((FrX.sa (k := 56) (i := μ 74 67) (v := c)).tr ((FrX.st (k := 54) (i := 2) (v := μ 74 67 + 1)).tr (FrX.sa (k := 57) (i := μ 74 67) (v := w))))
  generalize hm : st2 (st2 (st2 (st2 μ 55 (μ 74 67) (μ 0 2)) 56 (μ 74 67) c) 54 2 (μ 74 67 + 1)) 57 (μ 74 67) w = m at *
  have x54 : m 54 2 = μ 74 67 + 1 := by rw [← hm]; simp [st2]
  have x55 : ∀ i, m 55 i = if i = μ 74 67 then μ 0 2 else μ 55 i := fun i => by rw [← hm]; simp [st2]
  have x56 : ∀ i, m 56 i = if i = μ 74 67 then c else μ 56 i := fun i => by rw [← hm]; simp [st2]
  have x57 : ∀ i, m 57 i = if i = μ 74 67 then w else μ 57 i := fun i => by rw [← hm]; simp [st2]
  apply E_X12_solution
  refine s_isLight hG (by rw [st_f _ _ _ _ _ (by decide)]; exact fX.k 117 (by decide)) hc (fun r3 g3 => ⟨fun y3 => absurd w1 ((bit0 g3).mp y3), fun _ => s_isWord hv (n := μ 74 20) (by omega) (by rw [st_o _ _ _ _ _ (by decide)]; exact fX.f 74 20 (by decide)) (fun r4 g4 => ⟨fun y3 => absurd w2 ((bit0 g4).mp y3), fun _ => ?_⟩)⟩)
  rw [st_n _ _ _ _ _ _ (show (77 : Nat) ≠ 74 by decide), st_n _ _ _ _ _ _ (show (89 : Nat) ≠ 74 by decide), st_o _ _ _ _ _ (show (67 : Int) ≠ 0 by decide), st_o _ _ _ _ _ (show (4 : Int) ≠ 0 by decide), fX.k 77 (by decide), fX.k 89 (by decide), fX.f 74 67 (by decide), fX.f 74 4 (by decide)]
  refine ⟨by omega, by omega, by omega, by omega, fun y2 => absurd y y2, fun _ => ⟨by omega, fun _ => ⟨by omega, rfl, ?_⟩, fun y2 => by omega⟩⟩
  have gX := (FrX.st (μ := m) (k := 74) (i := 0) (v := 0)).tr ((FrX.sa (k := 114) (i := μ 74 67) (v := c)).tr ((FrX.sa (k := 115) (i := μ 74 67) (v := w)).tr ((FrX.sa (k := 116) (i := μ 74 67) (v := μ 74 4)).tr (FrX.st (k := 74) (i := 67) (v := μ 74 67 + 1)))))
  generalize hn : st2 (st2 (st2 (st2 (st2 m 74 0 0) 114 (μ 74 67) c) 115 (μ 74 67) w) 116 (μ 74 67) (μ 74 4)) 74 67 (μ 74 67 + 1) = n at *
  have aX := fX.tr gX
  have hA : MA μ n := MA.of aX (by decide)
  have y114 : ∀ i, n 114 i = if i = μ 74 67 then c else μ 114 i := fun i => by rw [← hn]; simp [st2]; rw [fX.k 114 (by decide)]
  have y115 : ∀ i, n 115 i = if i = μ 74 67 then w else μ 115 i := fun i => by rw [← hn]; simp [st2]; rw [fX.k 115 (by decide)]
  have y116 : ∀ i, n 116 i = if i = μ 74 67 then μ 74 4 else μ 116 i := fun i => by rw [← hn]; simp [st2]; rw [fX.k 116 (by decide)]
  have y67 : n 74 67 = μ 74 67 + 1 := by rw [← hn]; simp [st2]
  have z54 : n 54 2 = μ 74 67 + 1 := by rw [gX.f 54 2 (by decide)]; exact x54
  have z55 : ∀ i, n 55 i = if i = μ 74 67 then μ 0 2 else μ 55 i := fun i => by rw [gX.k 55 (by decide)]; exact x55 i
  have z56 : ∀ i, n 56 i = if i = μ 74 67 then c else μ 56 i := fun i => by rw [gX.k 56 (by decide)]; exact x56 i
  have z57 : ∀ i, n 57 i = if i = μ 74 67 then w else μ 57 i := fun i => by rw [gX.k 57 (by decide)]; exact x57 i
  have z20 : n 74 20 = μ 74 20 := aX.f 74 20 (by decide)
  have z4 : n 74 4 = μ 74 4 := aX.f 74 4 (by decide)
  have z77 : n 77 = μ 77 := aX.k 77 (by decide)
  have z89 : n 89 = μ 89 := aX.k 89 (by decide)
  have td := hD.1
  have td' := hD.2
  refine ⟨hT.kept aX (by decide), hD.kept aX (by decide), hO.kept aX (by decide), hW.kept aX (by decide), hM.kept aX (by decide), hS.kept aX (by decide), hC.kept aX (by decide), ⟨by omega, by omega, fun k k0 k1 => ?_, fun k k0 k1 => ?_, fun i j i0 ij j1 => ?_⟩, hF.kept aX (by decide), hU.kept aX (by decide), hR.kept aX (by decide), hG.kept aX (by decide), (hK.kept hA aX (by decide)).le (by omega), hP.kept hA aX (by decide), (hN.kept aX (by decide)).le (by omega)⟩
  · rw [z55, z56]
    have := a3 k k0 k1
    constructor <;> (split <;> omega)
  · rcases (show k < μ 74 67 ∨ k = μ 74 67 by omega) with e | e
    · rw [z55, if_neg (by omega), z56, if_neg (by omega), z57, if_neg (by omega), y114, if_neg (by omega), y115, if_neg (by omega), y116, if_neg (by omega), z4, z20, z77, z89]
      exact a4 k k0 e
    · subst e
      rw [z55, if_pos rfl, z56, if_pos rfl, z57, if_pos rfl, y114, if_pos rfl, y115, if_pos rfl, y116, if_pos rfl, z4, z20, z77, z89]
      exact ⟨by omega, by omega, rfl, by omega, rfl, w2, y⟩
  · rcases (show j < μ 74 67 ∨ j = μ 74 67 by omega) with e | e
    · rw [y116 i, if_neg (by omega), y116 j, if_neg (by omega)]
      exact a5 i j i0 ij e
    · subst e
      rcases (show i < μ 74 67 ∨ i = μ 74 67 by omega) with e | e
      · rw [y116 i, if_neg (by omega), y116 (μ 74 67), if_pos rfl]
        have := (a4 i i0 e).2.1
        omega
      · rw [e]; exact Int.le_refl _
end Ops5
