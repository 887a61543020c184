/-! send, right, winner -/
section Post
variable {G : xG} {l : Launch} {d : Nat} {μ ν α m y z : xMem} {P : Int → xMem → Prop} {PV' : xMem → Prop} {N t : Int}
theorem len_b {c : Int} (hG : gG α) (h0 : 0 ≤ c) (h1 : c < 16) : 0 ≤ α 49 c ∧ α 49 c ≤ 9 ∧ (lit α c → α 49 c = α 89 c) ∧ (¬ lit α c → α 49 c = 0) := by
  have e := hG.2.1.1 c h0 h1
  by_cases q : α 117 c = 1
  · have := (hG.1.2.1 c ⟨h0, h1, q⟩).2.2.1
    rw [if_pos q] at e
    exact ⟨by omega, by omega, fun _ => e, fun q2 => absurd ⟨h0, h1, q⟩ q2⟩
  · rw [if_neg q] at e
    exact ⟨by omega, by omega, fun q2 => absurd q2.2.2 q, fun _ => e⟩
theorem lenS_m (hG : gG α) : ∀ (n a : Nat), a + n ≤ 16 → 0 ≤ lenS α a ∧ lenS α a ≤ lenS α (a + n) ∧ lenS α (a + n) ≤ lenS α a + 9 * n
  | 0, a, h => by
    have : ∀ a : Nat, a ≤ 16 → 0 ≤ lenS α a := fun a => by
      induction a with
      | zero => intro _; exact Int.le_refl _
      | succ a ih => intro h2; have := ih (by omega); have := (len_b hG (c := a) (by omega) (by omega)).1; rw [lenS]; omega
    exact ⟨this a (by omega), Int.le_refl _, by simp⟩
  | n + 1, a, h => by
    obtain ⟨h1, h2, h3⟩ := lenS_m hG n a (by omega)
    have := len_b hG (c := ((a + n : Nat) : Int)) (by omega) (by omega)
    rw [show a + (n + 1) = a + n + 1 by omega, lenS]
    refine ⟨h1, by omega, by omega⟩
theorem lenS_0 (hG : gG α) : ∀ n : Nat, n ≤ 16 → (lenS α n = 0 ↔ cntW (fun c => α 117 c = 1) n = 0)
  | 0, _ => by rw [lenS, cntW]
  | n + 1, h => by
    have ih := lenS_0 hG n (by omega)
    have h1 := lenS_m hG 0 n (by omega)
    have h2 := cntW_le (p := fun c => α 117 c = 1) n
    have hb := len_b hG (c := (n : Int)) (by omega) (by omega)
    rw [lenS, cntW]
    by_cases q : α 117 n = 1
    · rw [ind_t q]
      have hl : lit α n := ⟨by omega, by omega, q⟩
      have := (hG.1.2.1 _ hl).2.2.1
      have := hb.2.2.1 hl
      omega
    · rw [ind_f q]
      have := hb.2.2.2 (fun q2 => q q2.2.2)
      omega
theorem s_allLetters (hG : gG α) (e117 : z 117 = α 117) (e89 : z 89 = α 89) (h : P (lenS α 16) z) : CI G l (d + 1) mX12_allLetters [xr G 74] z P := by
  apply E_X12_allLetters
  have main : ∀ (n k : Nat), k + n = 16 → K_X12_allLetters_4 G l (d + 1) P (lenS α k) (k : Int) z := by
    intro n
    induction n with
    | zero =>
      intro k hk
      have b := lenS_m hG 0 k (by omega)
      have b2 := lenS_m hG k 0 (by omega)
      rw [Nat.zero_add] at b2
      have e0 : lenS α 0 = 0 := rfl
      apply B_X12_allLetters_4
      have e : k = 16 := by omega
      subst e
      exact ⟨by decide, fun _ => ⟨by omega, h⟩, fun q => absurd q (by decide)⟩
    | succ n ih =>
      intro k hk
      have hi := ih (k + 1) (by omega)
      have hb := len_b hG (c := (k : Int)) (by omega) (by omega)
      have h01 := (hG.1.1 (k : Int) (by omega) (by omega)).1
      rw [lenS, show ((k + 1 : Nat) : Int) = (k : Int) + 1 by omega] at hi
      apply B_X12_allLetters_4
      rw [e117, e89]
      refine ⟨by omega, fun q => by omega, fun _ => ⟨by omega, by omega, fun q => ?_, fun q => ?_⟩⟩
      · rw [hb.2.2.2 (fun q2 => by have := q2.2.2; omega)] at hi; exact hi
      · rw [hb.2.2.1 ⟨by omega, by omega, by omega⟩] at hi; exact hi
  exact main 16 0 (by omega)
def newG (μ : xMem) (n : Int) : Prop := μ 74 81 < 30 ∧ lenS μ 16 ≠ 0 ∧ n = lenS μ 16 ∧ ∀ i, 0 ≤ i → i < n → 97 ≤ μ 1 i ∧ μ 1 i ≤ 122
theorem s_addGrid {n : Int} (hT : gT μ) (hG : gG μ) (hR : gR μ) (hn : 0 ≤ n ∧ n ≤ 180) (h1 : ¬ newG μ n → P (-1) (st2 μ 0 1 0)) (h2 : newG μ n → P (μ 74 81) (cpy (st2 (st2 (st2 (st2 (st2 μ 0 1 0) 69 (μ 74 81) (μ 0 2)) 70 (μ 74 81) 0) 68 2 (μ 74 81 + 1)) 72 (μ 74 81) n) 1 0 71 (μ 74 81 * 160) n)) : CI G l (d + 4) mX7_addGrid [xr G 67, xr G 1, xi n, xi (μ 0 2)] (st2 μ 0 1 0) P := by
  have e68 : st2 μ 0 1 0 68 2 = μ 74 81 := by rw [st_n _ _ _ _ _ _ (by decide)]; exact hR.1
  have hgb := hR.2.1
  have b2 := lenS_m hG 16 0 (by omega)
  rw [Nat.zero_add] at b2
  have e0 : lenS μ 0 = 0 := rfl
  have e9 : st2 μ 0 1 0 46 9 = cntW (fun c => μ 117 c = 1) 16 := by rw [st_n _ _ _ _ _ _ (by decide)]; exact hG.2.1.2.2.2.2.1
  have e10 : st2 μ 0 1 0 46 10 = lenS μ 16 := by rw [st_n _ _ _ _ _ _ (by decide)]; exact hG.2.1.2.2.2.2.2
  have l0 := lenS_0 hG 16 (by decide)
  have cb := cntW_le (p := fun c => μ 117 c = 1) 16
  apply E_X7_addGrid (k1 := 1) (n1 := 180) rfl (by decide)
  refine s_isFull log68 (by omega) (fun r g => ⟨fun q => h1 (fun nw => ?_), fun q => ?_⟩)
  · have := (bitne g).mp q
    have := nw.1
    omega
  · have nf := (bit0 g).mp q
    rw [e68] at nf
    rw [e9, e10]
    refine ⟨by omega, fun q2 => h1 (fun nw => nw.2.1 (l0.mpr q2)), fun q2 => ⟨by omega, by omega, fun q3 => h1 (fun nw => q3 nw.2.2.1), fun q3 => ⟨fun q4 => ?_, fun q4 => by omega⟩⟩⟩
    have main : ∀ (j : Nat) (v : Int), v + j = n → 0 ≤ v → (∀ i, 0 ≤ i → i < v → 97 ≤ μ 1 i ∧ μ 1 i ≤ 122) → K_X7_addGrid_43 G l (d + 4) P 1 180 n (μ 0 2) v (st2 μ 0 1 0) := by
      intro j
      induction j with
      | zero =>
        intro v hv v0 hi
        apply B_X7_addGrid_43 (k1 := 1) (n1 := 180) rfl (by decide)
        refine ⟨by omega, by omega, fun _ => s_add log68 (by omega) (fun q5 => by omega) (fun q5 => ?_), fun q5 => by omega⟩
        rw [e68]
        exact ⟨by omega, by omega, by omega, by omega, by omega, h2 ⟨by omega, fun q6 => q2 (l0.mp q6), q3, fun i i0 i1 => hi i i0 (by omega)⟩⟩
      | succ j ih =>
        intro v hv v0 hi
        have bt := (hT.2.2 v v0 (by omega)).1
        apply B_X7_addGrid_43 (k1 := 1) (n1 := 180) rfl (by decide)
        rw [st_n _ _ _ _ _ _ (show (1 : Nat) ≠ 0 by decide)]
        refine ⟨by omega, by omega, fun q5 => by omega, fun _ => ⟨by omega, s_small (by omega) (fun r g => ⟨fun q5 => ih (v + 1) (by omega) (by omega) (fun i i0 i1 => ?_), fun q5 => h1 (fun nw => (bit0 g).mp q5 (nw.2.2.2 v v0 (by omega)))⟩)⟩⟩
        rcases (show i < v ∨ i = v by omega) with c | c
        · exact hi i i0 c
        · rw [c]; exact (bitne g).mp q5
    exact main n.toNat 0 (by omega) (by omega) (fun i i0 i1 => by omega)
def mdG (μ ν ν' : xMem) (n : Int) : Prop := FrX [126, 127, 128] [(74, 0), (74, 2), (74, 3), (74, 81)] ν ν' ∧ ν' 74 2 = 0 ∧ ν' 74 81 = μ 74 81 + 1 ∧ (∀ i, ν' 127 i = if i = μ 74 81 then n else μ 127 i) ∧ (∀ i, ν' 128 i = if i = μ 74 81 then μ 74 4 else μ 128 i) ∧ ∀ i, ν' 126 i = if 160 * μ 74 81 ≤ i ∧ i < 160 * μ 74 81 + n then μ 1 (i - 160 * μ 74 81) else μ 126 i
theorem s_mSend {S : List Nat} {T : List (Nat × Int)} (hT : gT μ) (hG : gG μ) (hR : gR μ) (hf : FrX S T μ ν) (hd : dj [75, 89, 117, 126, 127, 128] [(74, 2), (74, 4), (74, 81)] S T = true) (h1 : ¬ newG μ (μ 0 1) → P (-1) (st2 (st2 (st2 ν 74 0 0) 74 3 (μ 0 1)) 74 2 0)) (h2 : newG μ (μ 0 1) → ∀ ν', mdG μ ν ν' (μ 0 1) → P (μ 74 81) ν') : CI G l (d + 4) mX12_send [xr G 74] ν P := by
  have tb := hT.1
  have hgb := hR.2.1
  have b2 := lenS_m hG 16 0 (by omega)
  rw [Nat.zero_add] at b2
  have e0 : lenS μ 0 = 0 := rfl
  have q75 : ν 75 = μ 75 := hf.a hd (by decide)
  have q89 : ν 89 = μ 89 := hf.a hd (by decide)
  have q117 : ν 117 = μ 117 := hf.a hd (by decide)
  have q126 : ν 126 = μ 126 := hf.a hd (by decide)
  have q127 : ν 127 = μ 127 := hf.a hd (by decide)
  have q128 : ν 128 = μ 128 := hf.a hd (by decide)
  have q2 : ν 74 2 = μ 0 1 := by rw [hf.b (i := 2) hd (by decide)]; exact hT.2.1
  have q4 : ν 74 4 = μ 74 4 := hf.b hd (by decide)
  have q81 : ν 74 81 = μ 74 81 := hf.b hd (by decide)
  apply E_X12_send
  refine s_taken ?_
  have em : st2 (st2 (st2 ν 74 0 0) 74 3 (st2 ν 74 0 0 74 2)) 74 2 0 = st2 (st2 (st2 ν 74 0 0) 74 3 (μ 0 1)) 74 2 0 := by rw [st_o _ _ _ _ _ (show (2 : Int) ≠ 0 by decide), q2]
  rw [em]
  generalize hm0 : st2 (st2 (st2 ν 74 0 0) 74 3 (μ 0 1)) 74 2 0 = m0 at *
  have f0 : FrX [] [(74, 0), (74, 3), (74, 2)] ν m0 := by rw [← hm0]; exact (FrX.st (k := 74) (i := 0)).tr ((FrX.st (k := 74) (i := 3)).tr (FrX.st (k := 74) (i := 2)))
  have r3 : m0 74 3 = μ 0 1 := by rw [← hm0]; simp [st2]
  have r2 : m0 74 2 = 0 := by rw [← hm0]; simp [st2]
  have r81 : m0 74 81 = μ 74 81 := by rw [f0.f 74 81 (by decide)]; exact q81
  have r4 : m0 74 4 = μ 74 4 := by rw [f0.f 74 4 (by decide)]; exact q4
  have r75 : m0 75 = μ 75 := by rw [f0.k 75 (by decide)]; exact q75
  have r89 : m0 89 = μ 89 := by rw [f0.k 89 (by decide)]; exact q89
  have r117 : m0 117 = μ 117 := by rw [f0.k 117 (by decide)]; exact q117
  have r126 : m0 126 = μ 126 := by rw [f0.k 126 (by decide)]; exact q126
  have r127 : m0 127 = μ 127 := by rw [f0.k 127 (by decide)]; exact q127
  have r128 : m0 128 = μ 128 := by rw [f0.k 128 (by decide)]; exact q128
  rw [r81]
  generalize hnn : μ 0 1 = n at *
  refine ⟨by omega, fun z => h1 (fun q => by have := q.1; omega), fun z => s_allLetters hG r117 r89 ⟨fun y => h1 (fun q => q.2.1 y), fun y => s_allLetters hG r117 r89 ?_⟩⟩
  rw [r3]
  refine ⟨by omega, fun y2 => ?_, fun y2 => h1 (fun q => y2 q.2.2.1)⟩
  have k70 : newG μ n → ∀ (j : Nat) (v : Int) (x : xMem), v + j = n → 0 ≤ v → FrX [126] [] m0 x → (∀ i, x 126 i = if 160 * μ 74 81 ≤ i ∧ i < 160 * μ 74 81 + v then μ 1 (i - 160 * μ 74 81) else μ 126 i) → K_X12_send_70 G l (d + 4) P v x := by
    intro nw j
    induction j with
    | zero =>
      intro v x hv v0 fx hx
      apply B_X12_send_70
      rw [fx.f 74 3 (by decide), fx.f 74 81 (by decide), fx.f 74 4 (by decide), r3, r81, r4]
      refine ⟨by omega, by omega, fun _ => ⟨by omega, by omega, ?_⟩, fun q => by omega⟩
      rw [show μ 74 81 + 1 - 1 = μ 74 81 by omega]
      refine h2 nw _ ⟨?_, ?_, ?_, fun i => ?_, fun i => ?_, fun i => ?_⟩
      · exact (f0.tr (fx.tr ((FrX.sa (k := 127)).tr ((FrX.sa (k := 128)).tr (FrX.st (k := 74) (i := 81)))))).sub (by decide) (by decide)
      · simp [st2]; rw [fx.f 74 2 (by decide)]; exact r2
      · simp [st2]
      · simp [st2]; rw [fx.k 127 (by decide), r127]
      · simp [st2]; rw [fx.k 128 (by decide), r128]
      · simp [st2]; rw [hx i, show v = n by omega]
    | succ j ih =>
      intro v x hv v0 fx hx
      have bt := hT.2.2 v v0 (by omega)
      have sm := nw.2.2.2 v v0 (by omega)
      have e8 : j8 (μ 75 v) = μ 1 v := by rw [bt.2, j8_id (show -128 ≤ μ 1 v ∧ μ 1 v ≤ 127 by omega), j8_id (by omega)]
      apply B_X12_send_70
      rw [fx.f 74 3 (by decide), fx.f 74 81 (by decide), r3, r81, fx.k 75 (by decide), r75, e8]
      refine ⟨by omega, by omega, fun q => by omega, fun _ => ⟨by omega, by omega, ih (v + 1) _ (by omega) (by omega) ((fx.tr FrX.sa).sub (by decide) (by decide)) (fun i => ?_)⟩⟩
      rw [st_i]
      by_cases c : i = 160 * μ 74 81 + v
      · rw [if_pos c, if_pos (by omega)]; congr 1; omega
      · rw [if_neg c, hx i]
        by_cases c2 : 160 * μ 74 81 ≤ i ∧ i < 160 * μ 74 81 + v
        · rw [if_pos c2, if_pos (by omega)]
        · rw [if_neg c2, if_neg (by omega)]
  have k40 : ∀ (j : Nat) (v : Int), v + j = n → 0 ≤ v → (∀ i, 0 ≤ i → i < v → 97 ≤ μ 1 i ∧ μ 1 i ≤ 122) → K_X12_send_40 G l (d + 4) P v m0 := by
    intro j
    induction j with
    | zero =>
      intro v hv v0 hi
      apply B_X12_send_40
      rw [r3]
      refine ⟨by omega, by omega, fun _ => k70 ⟨by omega, y, y2, fun i i0 i1 => hi i i0 (by omega)⟩ n.toNat 0 m0 (by omega) (by omega) FrX.rf (fun i => ?_), fun q => by omega⟩
      rw [if_neg (by omega), r126]
    | succ j ih =>
      intro v hv v0 hi
      have bt := hT.2.2 v v0 (by omega)
      have js := j8s bt.1
      apply B_X12_send_40
      rw [r3, r75, bt.2]
      refine ⟨by omega, by omega, fun q => by omega, fun _ => ⟨by omega, s_mSmall (by unfold j8; omega) (fun r1 hr1 => ⟨fun q => ih (v + 1) (by omega) (by omega) (fun i i0 i1 => ?_), fun q => h1 (fun nw => (bit0 hr1).mp q (js.mpr (nw.2.2.2 v v0 (by omega))))⟩)⟩⟩
      rcases (show i < v ∨ i = v by omega) with c | c
      · exact hi i i0 c
      · rw [c]; exact js.mp ((bitne hr1).mp q)
  exact k40 n.toNat 0 (by omega) (by omega) (fun i i0 i1 => by omega)
theorem op_send (hI : INV N μ) : SIM G l (d + 60) mX11_send mX12_send [] N μ := by
  obtain ⟨hT, hD, hO, hW, hM, hS, hC, hL, hF, hU, hR, hG, hK, hP, hN⟩ := id hI
  have b2 := lenS_m hG 16 0 (by omega)
  rw [Nat.zero_add] at b2
  have e0 : lenS μ 0 = 0 := rfl
  unfold SIM
  apply E_X11_send
  refine s_takeTape hT ?_
  rw [st_o _ _ _ _ _ (show (2 : Int) ≠ 1 by decide)]
  refine s_addGrid hT hG hR hT.1 (fun nw => ?_) (fun nw => ?_)
  · refine s_mSend (S := []) (T := [(0, 1)]) hT hG hR FrX.st (by decide) (fun _ => ⟨rfl, ?_⟩) (fun y => absurd y nw)
    have aX := (FrX.st (μ := μ) (k := 0) (i := 1) (v := 0)).tr ((FrX.st (μ := st2 μ 0 1 0) (k := 74) (i := 0) (v := 0)).tr ((FrX.st (k := 74) (i := 3) (v := μ 0 1)).tr (FrX.st (k := 74) (i := 2) (v := 0))))
    have hA : MA μ _ := MA.of aX (by decide)
    exact ⟨⟨by simp [st2], by simp [st2], fun i i0 i1 => by simpa [st2] using hT.2.2 i i0 i1⟩, hD.kept aX (by decide), hO.kept aX (by decide), hW.kept aX (by decide), hM.kept aX (by decide), hS.kept aX (by decide), hC.kept aX (by decide), hL.kept aX (by decide), hF.kept aX (by decide), hU.kept aX (by decide), hR.kept aX (by decide), hG.kept aX (by decide), (hK.kept hA aX (by decide)).le (by omega), hP.kept hA aX (by decide), (hN.kept aX (by decide)).le (by omega)⟩
  · generalize hnn : μ 0 1 = n at *
    have fX := (FrX.st (μ := μ) (k := 0) (i := 1) (v := 0)).tr ((FrX.sa (μ := st2 μ 0 1 0) (k := 69) (i := μ 74 81) (v := μ 0 2)).tr ((FrX.sa (k := 70) (i := μ 74 81) (v := 0)).tr ((FrX.st (k := 68) (i := 2) (v := μ 74 81 + 1)).tr ((FrX.sa (k := 72) (i := μ 74 81) (v := n)).tr (FrX.cp (ks := 1) (kd := 71) (sp := 0) (dp := μ 74 81 * 160) (n := n))))))
    generalize hm : cpy (st2 (st2 (st2 (st2 (st2 μ 0 1 0) 69 (μ 74 81) (μ 0 2)) 70 (μ 74 81) 0) 68 2 (μ 74 81 + 1)) 72 (μ 74 81) n) 1 0 71 (μ 74 81 * 160) n = m at *
    have x01 : m 0 1 = 0 := by rw [← hm]; simp [cpy, st2]
    have x68 : m 68 2 = μ 74 81 + 1 := by rw [← hm]; simp [cpy, st2]
    have x69 : ∀ i, m 69 i = if i = μ 74 81 then μ 0 2 else μ 69 i := fun i => by rw [← hm]; simp [cpy, st2]
    have x72 : ∀ i, m 72 i = if i = μ 74 81 then n else μ 72 i := fun i => by rw [← hm]; simp [cpy, st2]
    have x71 : ∀ i, m 71 i = if μ 74 81 * 160 ≤ i ∧ i < μ 74 81 * 160 + n then μ 1 (i - μ 74 81 * 160) else μ 71 i := fun i => by rw [← hm]; simp [cpy, st2]
    have hd0 : dj [75, 89, 117, 126, 127, 128] [(74, 2), (74, 4), (74, 81)] ([] ++ ([69] ++ ([70] ++ ([] ++ ([72] ++ [71]))))) ([(0, 1)] ++ ([] ++ ([] ++ ([(68, 2)] ++ ([] ++ []))))) = true := by decide
    rw [← hnn] at nw
    refine s_mSend hT hG hR fX hd0 (fun y => absurd nw y) (fun _ ν' hν => ⟨rfl, ?_⟩)
    rw [hnn] at nw hν
    obtain ⟨gf, y2, y81, y127, y128, y126⟩ := hν
    have aX := fX.tr gf
    have hA : MA μ ν' := MA.of aX (by decide)
    obtain ⟨n1, n2, n3, n4⟩ := nw
    have z01 : ν' 0 1 = 0 := by rw [gf.f 0 1 (by decide)]; exact x01
    have z68 : ν' 68 2 = μ 74 81 + 1 := by rw [gf.f 68 2 (by decide)]; exact x68
    have z69 : ∀ i, ν' 69 i = if i = μ 74 81 then μ 0 2 else μ 69 i := fun i => by rw [gf.k 69 (by decide)]; exact x69 i
    have z72 : ∀ i, ν' 72 i = if i = μ 74 81 then n else μ 72 i := fun i => by rw [gf.k 72 (by decide)]; exact x72 i
    have z71 : ∀ i, ν' 71 i = if μ 74 81 * 160 ≤ i ∧ i < μ 74 81 * 160 + n then μ 1 (i - μ 74 81 * 160) else μ 71 i := fun i => by rw [gf.k 71 (by decide)]; exact x71 i
    have z4 : ν' 74 4 = μ 74 4 := aX.f 74 4 (by decide)
    have hgb := hR.2.1
    have td := hD.1
    have td' := hD.2
    refine ⟨⟨by omega, by omega, fun i i0 i1 => by rw [aX.k 1 (by decide), aX.k 75 (by decide)]; exact hT.2.2 i i0 i1⟩, hD.kept aX (by decide), hO.kept aX (by decide), hW.kept aX (by decide), hM.kept aX (by decide), hS.kept aX (by decide), hC.kept aX (by decide), hL.kept aX (by decide), hF.kept aX (by decide), hU.kept aX (by decide), ⟨by omega, by omega, fun g g0 g1 => ?_⟩, hG.kept aX (by decide), (hK.kept hA aX (by decide)).le (by omega), hP.kept hA aX (by decide), (hN.kept aX (by decide)).le (by omega)⟩
    rcases (show g < μ 74 81 ∨ g = μ 74 81 by omega) with e | e
    · obtain ⟨a1, a2, a3, a4, a5⟩ := hR.2.2 g g0 e
      rw [z69, if_neg (by omega), y128, if_neg (by omega), z4, z72, if_neg (by omega), y127, if_neg (by omega)]
      refine ⟨a1, a2, a3, a4, fun i i0 i1 => ?_⟩
      rw [z71, if_neg (by omega), y126, if_neg (by omega)]
      exact a5 i i0 i1
    · subst e
      rw [z69, if_pos rfl, y128, if_pos rfl, z4, z72, if_pos rfl, y127, if_pos rfl]
      refine ⟨by omega, by omega, rfl, by omega, fun i i0 i1 => ?_⟩
      rw [z71, if_pos (by omega), y126, if_pos (by omega), show μ 74 81 * 160 + i - μ 74 81 * 160 = i by omega, show 160 * μ 74 81 + i - 160 * μ 74 81 = i by omega]
      exact ⟨rfl, n4 i i0 i1⟩
end Post
