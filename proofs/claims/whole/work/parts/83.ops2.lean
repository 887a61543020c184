/-! count, filled, enter, cell -/
section Ops2
variable {G : xG} {l : Launch} {d : Nat} {μ ν α : xMem} {P : Int → xMem → Prop} {PV' : xMem → Prop} {N : Int}
theorem s_cnt82 (hr : ∀ c, 0 ≤ c → c < 16 → iR (μ 89 c)) (h : P (cntW (fun c => 0 < μ 89 c) 16) μ) : ∀ (n k : Nat), k + n = 16 → K_X12_count_82 G l (d + 1) P (cntW (fun c => 0 < μ 89 c) k) (k : Int) μ := by
  intro n
  induction n with
  | zero =>
    intro k hk
    have b := cntW_le (p := fun c => 0 < μ 89 c) k
    apply B_X12_count_82
    have e : k = 16 := by omega
    subst e
    exact ⟨by decide, fun _ => ⟨by omega, h⟩, fun z => absurd z (by decide)⟩
  | succ n ih =>
    intro k hk
    have hi := ih (k + 1) (by omega)
    rw [cntW, show ((k + 1 : Nat) : Int) = (k : Int) + 1 by omega] at hi
    apply B_X12_count_82
    refine ⟨by omega, fun z => by omega, fun _ => ⟨by omega, hr k (by omega) (by omega), fun z => ?_, fun z => ?_⟩⟩
    · rw [ind_f (by omega)] at hi; exact hi
    · rw [ind_t z] at hi; exact hi
theorem s_cnt115 (hr : ∀ c, 0 ≤ c → c < 16 → μ 117 c = 0 ∨ μ 117 c = 1) (h : P (cntW (fun c => μ 117 c = 1) 16) μ) : ∀ (n k : Nat), k + n = 16 → K_X12_count_115 G l (d + 1) P (cntW (fun c => μ 117 c = 1) k) (k : Int) μ := by
  intro n
  induction n with
  | zero =>
    intro k hk
    have b := cntW_le (p := fun c => μ 117 c = 1) k
    apply B_X12_count_115
    have e : k = 16 := by omega
    subst e
    exact ⟨by decide, fun _ => ⟨by omega, h⟩, fun z => absurd z (by decide)⟩
  | succ n ih =>
    intro k hk
    have hi := ih (k + 1) (by omega)
    have hq := hr k (by omega) (by omega)
    rw [cntW, show ((k + 1 : Nat) : Int) = (k : Int) + 1 by omega] at hi
    apply B_X12_count_115
    refine ⟨by omega, fun z => by omega, fun _ => ⟨by omega, by omega, fun z => ?_, fun z => ?_⟩⟩
    · rw [ind_f (by omega)] at hi; exact hi
    · rw [ind_t (by omega)] at hi; exact hi
theorem op_count (hI : INV N μ) {v : Int} (hv : iR v) : SIM G l (d + 60) mX11_count mX12_count [xi v] N μ := by
  obtain ⟨hT, hD, hO, hW, hM, hS, hC, hL, hF, hU, hR, hG, hK, hP, hN⟩ := id hI
  have a0 := hD.1
  have a0' := hD.2
  have a1 := hW.1.1
  have a1' := hW.2.2.1.1
  have a2 := hM.1.1
  have a2' := hM.2.1.1
  have a3 := hS.1.1
  have a3' := hS.2.1
  have a4 := hC.2.2.2.2.2.2
  have a5 := hG.2.1.2.2.2.2.1
  have a6 := hR.1
  have a6' := hR.2.1
  have a7 := hT.1
  have a7' := hT.2.1
  have a8 := hO.1
  have a8' := hO.2.1
  have b4 := cntW_le (p := fun c => 0 < μ 89 c) 16
  have b5 := cntW_le (p := fun c => μ 117 c = 1) 16
  unfold SIM
  apply E_X11_count

  refine ⟨hv, fun z => ⟨by omega, ?_⟩, fun z => ⟨by omega, ?_⟩, fun z => ⟨by omega, ?_⟩, fun z => ⟨by omega, ?_⟩, fun z => ⟨by omega, ?_⟩, fun z => ⟨by omega, ?_⟩, fun z => ⟨by omega, ?_⟩, fun z => ⟨by omega, ?_⟩, fun z => ⟨by omega, ?_⟩, fun z => ?_⟩
  · subst z
    apply E_X12_count
    exact ⟨by decide, fun _ => ⟨by omega, by omega, hI.thr⟩, fun y => absurd y (by decide), fun y => absurd y (by decide), fun y => absurd y (by decide), fun y => absurd y (by decide), fun y => absurd y (by decide), fun y => absurd y (by decide), fun y => absurd y (by decide), fun y => absurd y (by decide), fun y => absurd y (by decide)⟩
  · subst z
    apply E_X12_count
    exact ⟨by decide, fun y => absurd y (by decide), fun _ => ⟨by omega, by omega, hI.thr⟩, fun y => absurd y (by decide), fun y => absurd y (by decide), fun y => absurd y (by decide), fun y => absurd y (by decide), fun y => absurd y (by decide), fun y => absurd y (by decide), fun y => absurd y (by decide), fun y => absurd y (by decide)⟩
  · subst z
    apply E_X12_count
    exact ⟨by decide, fun y => absurd y (by decide), fun y => absurd y (by decide), fun _ => ⟨by omega, by omega, hI.thr⟩, fun y => absurd y (by decide), fun y => absurd y (by decide), fun y => absurd y (by decide), fun y => absurd y (by decide), fun y => absurd y (by decide), fun y => absurd y (by decide), fun y => absurd y (by decide)⟩
  · subst z
    apply E_X12_count
    exact ⟨by decide, fun y => absurd y (by decide), fun y => absurd y (by decide), fun y => absurd y (by decide), fun _ => ⟨by omega, by omega, hI.thr⟩, fun y => absurd y (by decide), fun y => absurd y (by decide), fun y => absurd y (by decide), fun y => absurd y (by decide), fun y => absurd y (by decide), fun y => absurd y (by decide)⟩
  · subst z
    apply E_X12_count
    exact ⟨by decide, fun y => absurd y (by decide), fun y => absurd y (by decide), fun y => absurd y (by decide), fun y => absurd y (by decide), fun _ => s_cnt82 (μ := st2 μ 74 0 0) (fun c c0 c1 => by rw [st_n _ _ _ _ _ _ (by decide)]; have := hC.2.2.2.2.2.1 c c0 c1; omega) ⟨by rw [a4, st_f _ _ _ _ _ (by decide)], hI.thr⟩ 16 0 (by decide), fun y => absurd y (by decide), fun y => absurd y (by decide), fun y => absurd y (by decide), fun y => absurd y (by decide), fun y => absurd y (by decide)⟩
  · subst z
    apply E_X12_count
    exact ⟨by decide, fun y => absurd y (by decide), fun y => absurd y (by decide), fun y => absurd y (by decide), fun y => absurd y (by decide), fun y => absurd y (by decide), fun _ => s_cnt115 (μ := st2 μ 74 0 0) (fun c c0 c1 => by rw [st_n _ _ _ _ _ _ (by decide)]; exact (hG.1.1 c c0 c1).1) ⟨by rw [a5, st_f _ _ _ _ _ (by decide)], hI.thr⟩ 16 0 (by decide), fun y => absurd y (by decide), fun y => absurd y (by decide), fun y => absurd y (by decide), fun y => absurd y (by decide)⟩
  · subst z
    apply E_X12_count
    exact ⟨by decide, fun y => absurd y (by decide), fun y => absurd y (by decide), fun y => absurd y (by decide), fun y => absurd y (by decide), fun y => absurd y (by decide), fun y => absurd y (by decide), fun _ => ⟨by omega, by omega, hI.thr⟩, fun y => absurd y (by decide), fun y => absurd y (by decide), fun y => absurd y (by decide)⟩
  · subst z
    apply E_X12_count
    exact ⟨by decide, fun y => absurd y (by decide), fun y => absurd y (by decide), fun y => absurd y (by decide), fun y => absurd y (by decide), fun y => absurd y (by decide), fun y => absurd y (by decide), fun y => absurd y (by decide), fun _ => ⟨by omega, by omega, hI.thr⟩, fun y => absurd y (by decide), fun y => absurd y (by decide)⟩
  · subst z
    apply E_X12_count
    exact ⟨by decide, fun y => absurd y (by decide), fun y => absurd y (by decide), fun y => absurd y (by decide), fun y => absurd y (by decide), fun y => absurd y (by decide), fun y => absurd y (by decide), fun y => absurd y (by decide), fun y => absurd y (by decide), fun _ => ⟨by omega, by omega, hI.thr⟩, fun y => absurd y (by decide)⟩
  · apply E_X12_count
    exact ⟨hv, fun y => by omega, fun y => by omega, fun y => by omega, fun y => by omega, fun y => by omega, fun y => by omega, fun y => by omega, fun y => by omega, fun y => by omega, fun _ => ⟨rfl, hI.thr⟩⟩
theorem op_filled (hI : INV N μ) {v : Int} (hv : iR v) : SIM G l (d + 60) mX11_filled mX12_filled [xi v] N μ := by
  obtain ⟨hT, hD, hO, hW, hM, hS, hC, hL, hF, hU, hR, hG, hK, hP, hN⟩ := id hI
  have fail : (0 ≤ v → v < 16 → μ 74 72 = 0) → CI G l (d + 60) mX12_filled [xr G 74, xi v] μ (fun r' m' => -1 = r' ∧ INV (N + 1) m') := by
    intro hz
    apply E_X12_filled
    refine ⟨by rcases hF with y | y <;> omega, fun _ => ⟨rfl, hI.thr⟩, fun z => s_isIn hv (by decide) (by decide) (fun r hr => ⟨fun _ => ⟨rfl, hI.thr⟩, fun y => ?_⟩)⟩
    have := (bitne hr).mp y
    exact absurd (hz (by omega) (by omega)) z
  unfold SIM
  apply E_X11_filled
  refine ⟨hv, fun z => fail (by omega), fun z => ⟨fun z2 => ⟨by omega, ?_, ?_⟩, fun z2 => fail (by omega)⟩⟩
  · rcases hF with y | y
    · have := y.2 v z z2; omega
    · have := y.2 v z z2; omega
  · rcases hF with y | y
    · rw [y.2 v z z2]
      exact fail (fun _ _ => y.1)
    · have y2 := y.2 v z z2
      apply E_X12_filled
      refine ⟨by omega, fun q => by omega, fun _ => s_isIn hv (by decide) (by decide) (fun r hr => ⟨fun q => ?_, fun q => ⟨by omega, by rw [st_n _ _ _ _ _ _ (by decide)]; exact y2.2, by rw [st_n _ _ _ _ _ _ (by decide)]; exact y2.1, hI.thr⟩⟩)⟩
      exact absurd (show 0 ≤ v ∧ v ≤ 15 by omega) ((bit0 hr).mp q)
theorem s_xIsCell {a b : Int} (ha : iR a) (hb : iR b) (h : ∀ r, bit r (0 ≤ a ∧ a ≤ 8 ∧ 0 ≤ b ∧ b ≤ 8) → P r μ) : CI G l (d + 1) mX2_isCell [xr G 46, xi a, xi b] μ P := by
  apply E_X2_isCell
  exact ⟨ha, fun z => h 0 (Or.inr ⟨rfl, by omega⟩), fun z => ⟨fun z2 => h 0 (Or.inr ⟨rfl, by omega⟩), fun z2 => ⟨hb, fun z3 => h 0 (Or.inr ⟨rfl, by omega⟩), fun z3 => ⟨fun z4 => h 0 (Or.inr ⟨rfl, by omega⟩), fun z4 => h 1 (Or.inl ⟨rfl, by omega⟩)⟩⟩⟩⟩
def litC (μ : xMem) (a b : Int) : Prop := (0 ≤ a ∧ a ≤ 8 ∧ 0 ≤ b ∧ b ≤ 8) ∧ (0 < μ 111 (9 * a + b) ∨ 0 < μ 112 (9 * a + b))
theorem s_xIsLit {a b : Int} (hG : gG μ) (ha : iR a) (hb : iR b) (h : ∀ r, bit r (litC μ a b) → P r μ) : CI G l (d + 2) mX2_isLit [xr G 46, xi a, xi b] μ P := by
  apply E_X2_isLit
  refine s_xIsCell ha hb (fun r hr => ⟨fun z => ?_, fun z => h 0 (Or.inr ⟨rfl, fun y => (bit0 hr).mp z y.1⟩)⟩)
  have hc := (bitne hr).mp z
  obtain ⟨e1, e2⟩ := hG.2.1.2.2.1 (9 * a + b) (by omega) (by omega)
  obtain ⟨w1, w2, -, -⟩ := hG.1.2.2.1 (9 * a + b) (by omega) (by omega)
  rw [show a * 9 + b = 9 * a + b by omega, e1, e2]
  refine ⟨by omega, by omega, fun y => h 1 (Or.inl ⟨rfl, hc, by omega⟩), fun y => ⟨by omega, fun y2 => h 0 (Or.inr ⟨rfl, fun q => by have := q.2; omega⟩), fun y2 => h 1 (Or.inl ⟨rfl, hc, by omega⟩)⟩⟩
theorem s_mIsCell {a b : Int} (ha : iR a) (hb : iR b) (h : ∀ r, bit r (0 ≤ a ∧ a ≤ 8 ∧ 0 ≤ b ∧ b ≤ 8) → P r μ) : CI G l (d + 2) mX12_isCell [xi a, xi b] μ P := by
  apply E_X12_isCell
  refine s_isIn ha (by decide) (by decide) (fun r hr => ⟨fun z => h 0 (Or.inr ⟨rfl, fun y => (bit0 hr).mp z (by omega)⟩), fun z => s_isIn hb (by decide) (by decide) (fun r2 hr2 => ⟨fun z2 => h 0 (Or.inr ⟨rfl, fun y => (bit0 hr2).mp z2 (by omega)⟩), fun z2 => h 1 (Or.inl ⟨rfl, ?_⟩)⟩)⟩)
  have := (bitne hr).mp z
  have := (bitne hr2).mp z2
  omega
theorem s_mIsLit {a b : Int} (hG : gG μ) (e1 : ν 111 = μ 111) (e2 : ν 112 = μ 112) (hc : 0 ≤ a ∧ a ≤ 8 ∧ 0 ≤ b ∧ b ≤ 8) (h : ∀ r, bit r (litC μ a b) → P r ν) : CI G l (d + 1) mX12_isLit [xr G 74, xi (9 * a + b)] ν P := by
  obtain ⟨w1, w2, -, -⟩ := hG.1.2.2.1 (9 * a + b) (by omega) (by omega)
  apply E_X12_isLit
  rw [e1, e2]
  exact ⟨by omega, by omega, fun y => h 1 (Or.inl ⟨rfl, hc, by omega⟩), fun y => ⟨by omega, fun y2 => h 0 (Or.inr ⟨rfl, fun q => by have := q.2; omega⟩), fun y2 => h 1 (Or.inl ⟨rfl, hc, by omega⟩)⟩⟩
theorem op_cell (hI : INV N μ) {a b : Int} (ha : iR a) (hb : iR b) : SIM G l (d + 60) mX11_cell mX12_cell [xi a, xi b] N μ := by
  obtain ⟨hT, hD, hO, hW, hM, hS, hC, hL, hF, hU, hR, hG, hK, hP, hN⟩ := id hI
  unfold SIM
  apply E_X11_cell
  refine s_xIsLit hG ha hb (fun r hr => ⟨fun z => ?_, fun z => ?_⟩)
  · have hl := (bitne hr).mp z
    obtain ⟨e1, e2⟩ := hG.2.2 (9 * a + b) (by have := hl.1; omega) (by have := hl.1; omega)
    rw [show a * 9 + b = 9 * a + b by omega, e1]
    refine ⟨by have := hl.1; omega, by omega, ?_⟩
    apply E_X12_cell
    refine s_mIsCell ha hb (fun r1 hr1 => ⟨fun y => absurd hl.1 ((bit0 hr1).mp y), fun y => s_mIsLit hG (st_f _ _ _ _ _ (by decide)) (st_f _ _ _ _ _ (by decide)) hl.1 (fun r2 hr2 => ⟨fun y2 => absurd hl ((bit0 hr2).mp y2), fun y2 => ?_⟩)⟩)
    rw [st_n _ _ _ _ _ _ (by decide)]
    exact ⟨by have := hl.1; omega, by omega, rfl, hI.thr⟩
  · have hl := (bit0 hr).mp z
    apply E_X12_cell
    refine s_mIsCell ha hb (fun r1 hr1 => ⟨fun y => ⟨rfl, hI.thr⟩, fun y => s_mIsLit hG (st_f _ _ _ _ _ (by decide)) (st_f _ _ _ _ _ (by decide)) ((bitne hr1).mp y) (fun r2 hr2 => ⟨fun y2 => ⟨rfl, hI.thr⟩, fun y2 => absurd ((bitne hr2).mp y2) hl⟩)⟩)
theorem gG.ent (h : gG μ) {S : List Nat} {T : List (Nat × Int)} (hf : FrX S T μ ν) (hd : dj [47, 48, 49, 50, 51, 53, 89, 109, 110, 111, 112, 117, 118] [(46, 9), (46, 10)] S T = true) (he : ∀ x, 0 ≤ x → x < 81 → ν 52 x = ν 113 x ∧ 0 ≤ ν 113 x ∧ ν 113 x ≤ 26) : gG ν := by
  have hx := h
  have e47 : ν 47 = μ 47 := hf.a hd (by decide)
  have e48 : ν 48 = μ 48 := hf.a hd (by decide)
  have e49 : ν 49 = μ 49 := hf.a hd (by decide)
  have e50 : ν 50 = μ 50 := hf.a hd (by decide)
  have e51 : ν 51 = μ 51 := hf.a hd (by decide)
  have e53 : ν 53 = μ 53 := hf.a hd (by decide)
  have e89 : ν 89 = μ 89 := hf.a hd (by decide)
  have e109 : ν 109 = μ 109 := hf.a hd (by decide)
  have e110 : ν 110 = μ 110 := hf.a hd (by decide)
  have e111 : ν 111 = μ 111 := hf.a hd (by decide)
  have e112 : ν 112 = μ 112 := hf.a hd (by decide)
  have e117 : ν 117 = μ 117 := hf.a hd (by decide)
  have e118 : ν 118 = μ 118 := hf.a hd (by decide)
  have f9 : ν 46 9 = μ 46 9 := hf.b hd (by decide)
  have f10 : ν 46 10 = μ 46 10 := hf.b hd (by decide)
  have eS : ∀ n, lenS ν n = lenS μ n := fun n => by induction n with | zero => rfl | succ n ih => rw [lenS, lenS, ih, e49]
  refine ⟨?_, ?_, he⟩
  · have h1 := hx.1
    unfold wfG cel lit at *
    simp only [e89, e109, e110, e111, e112, e117, e118]
    exact h1
  · have h1 := hx.2.1
    unfold rlG crs cel lit at *
    simp only [e47, e48, e49, e50, e51, e53, e89, e109, e110, e111, e112, e117, e118, f9, f10, eS]
    exact h1
/-- all holds on where only what is entered has changed, alike -/
theorem INV.ent {S : List Nat} {T : List (Nat × Int)} (hI : INV N μ) (hf : FrX S T μ ν) (hd : dj (iA.filter (fun k => k != 52 && k != 113)) iB S T = true) (hN' : gN (N + 1) ν) (he : ∀ x, 0 ≤ x → x < 81 → ν 52 x = ν 113 x ∧ 0 ≤ ν 113 x ∧ ν 113 x ≤ 26) : INV (N + 1) ν := by
  obtain ⟨hT, hD, hO, hW, hM, hS, hC, hL, hF, hU, hR, hG, hK, hP, hN⟩ := hI
  have hA : MA μ ν := MA.of hf (dj_sub hd (by decide) (by decide))
  exact ⟨hT.kept hf (dj_sub hd (by decide) (by decide)), hD.kept hf (dj_sub hd (by decide) (by decide)), hO.kept hf (dj_sub hd (by decide) (by decide)), hW.kept hf (dj_sub hd (by decide) (by decide)), hM.kept hf (dj_sub hd (by decide) (by decide)), hS.kept hf (dj_sub hd (by decide) (by decide)), hC.kept hf (dj_sub hd (by decide) (by decide)), hL.kept hf (dj_sub hd (by decide) (by decide)), hF.kept hf (dj_sub hd (by decide) (by decide)), hU.kept hf (dj_sub hd (by decide) (by decide)), hR.kept hf (dj_sub hd (by decide) (by decide)), hG.ent hf (dj_sub hd (by decide) (by decide)) he, (hK.kept hA hf (dj_sub hd (by decide) (by decide))).le (by omega), hP.kept hA hf (dj_sub hd (by decide) (by decide)), hN'⟩
theorem op_enter (hI : INV N μ) {a b c : Int} (ha : iR a) (hb : iR b) (hc : iR c) : SIM G l (d + 60) mX11_enter mX12_enter [xi a, xi b, xi c] N μ := by
  obtain ⟨hT, hD, hO, hW, hM, hS, hC, hL, hF, hU, hR, hG, hK, hP, hN⟩ := id hI
  have fail : ¬ (litC μ a b ∧ 0 ≤ c ∧ c ≤ 26) → CI G l (d + 60) mX12_enter [xr G 74, xi a, xi b, xi c] μ (fun r' m' => 0 = r' ∧ INV (N + 1) m') := by
    intro hz
    apply E_X12_enter
    refine s_mIsCell ha hb (fun r1 hr1 => ⟨fun y => ⟨rfl, hI.thr⟩, fun y => s_isIn hc (by decide) (by decide) (fun r2 hr2 => ⟨fun y2 => ⟨rfl, hI.thr⟩, fun y2 => s_mIsLit hG (st_f _ _ _ _ _ (by decide)) (st_f _ _ _ _ _ (by decide)) ((bitne hr1).mp y) (fun r3 hr3 => ⟨fun y3 => absurd ⟨(bitne hr3).mp y3, (bitne hr2).mp y2⟩ hz, fun y3 => ⟨rfl, hI.thr⟩⟩)⟩)⟩)
  unfold SIM
  apply E_X11_enter
  refine s_xIsLit hG ha hb (fun r hr => ⟨fun z => fail (fun y => (bit0 hr).mp z y.1), fun z => ⟨hc, fun z2 => fail (fun y => by have := y.2; omega), fun z2 => ⟨fun z3 => ?_, fun z3 => fail (fun y => by have := y.2; omega)⟩⟩⟩)
  have hl := (bitne hr).mp z
  have hlc := hl.1
  rw [show a * 9 + b = 9 * a + b by omega]
  refine ⟨by omega, ?_⟩
  apply E_X12_enter
  refine s_mIsCell ha hb (fun r1 hr1 => ⟨fun y => absurd hl.1 ((bit0 hr1).mp y), fun y => s_isIn hc (by decide) (by decide) (fun r2 hr2 => ⟨fun y2 => absurd ⟨z2, z3⟩ ((bit0 hr2).mp y2), fun y2 => s_mIsLit (μ := μ) hG (by rw [st_f _ _ _ _ _ (by decide), st_f _ _ _ _ _ (by decide)]) (by rw [st_f _ _ _ _ _ (by decide), st_f _ _ _ _ _ (by decide)]) hl.1 (fun r3 hr3 => ⟨fun y3 => ⟨by omega, rfl, ?_⟩, fun y3 => absurd hl ((bit0 hr3).mp y3)⟩)⟩)⟩)
  have aX := (FrX.sa (μ := μ) (k := 52) (i := 9 * a + b) (v := c)).tr ((FrX.st (μ := st2 μ 52 (9 * a + b) c) (k := 74) (i := 0) (v := 0)).tr (FrX.sa (k := 113) (i := 9 * a + b) (v := c)))
  refine hI.ent aX (by decide) ((hN.kept aX (by decide)).le (by omega)) (fun x x0 x1 => ?_)
  have := hG.2.2 x x0 x1
  unfold st2
  by_cases e : x = 9 * a + b <;> simp [e] <;> omega
end Ops2
