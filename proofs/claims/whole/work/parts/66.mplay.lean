/-! the model: places, names of plays, one letter less -/
section SpecMPlay
variable {G : xG} {l : Launch} {d : Nat} {μ ν α : xMem} {P : Int → xMem → Prop} {PV' : xMem → Prop} {tl w t : Int}
/-- the model's place -/
def mp (i j p q s : Int) : Int := ((((((((((((i * 8) - ((i * (i - 1)) / 2)) + j) - i) * 55) + (p * 10)) - ((p * (p - 1)) / 2)) + q) - p) - 1) * 2) + s)
def okM (i j p q s : Int) : Prop := (0 ≤ i ∧ i ≤ j ∧ j ≤ 7) ∧ (0 ≤ p ∧ p < q ∧ q ≤ 10) ∧ (s = 0 ∨ s = 1)
theorem c9 {j : Int} (h0 : 0 ≤ j) (h1 : j ≤ 9) : j = 0 ∨ j = 1 ∨ j = 2 ∨ j = 3 ∨ j = 4 ∨ j = 5 ∨ j = 6 ∨ j = 7 ∨ j = 8 ∨ j = 9 := by omega
theorem mt_i {i j : Int} (h : 0 ≤ i ∧ i ≤ j ∧ j ≤ 7) : 0 ≤ i * 8 - i * (i - 1) / 2 + j - i ∧ i * 8 - i * (i - 1) / 2 + j - i < 36 := by
  rcases c8 (j := i) h.1 (by omega) with rfl | rfl | rfl | rfl | rfl | rfl | rfl | rfl <;> omega
theorem mt_p {p q : Int} (h : 0 ≤ p ∧ p < q ∧ q ≤ 10) : 0 ≤ p * 10 - p * (p - 1) / 2 + q - p - 1 ∧ p * 10 - p * (p - 1) / 2 + q - p - 1 < 55 := by
  rcases c9 (j := p) h.1 (by omega) with rfl | rfl | rfl | rfl | rfl | rfl | rfl | rfl | rfl | rfl <;> omega
theorem mt_i2 {i j i' j' : Int} (h : 0 ≤ i ∧ i ≤ j ∧ j ≤ 7) (h' : 0 ≤ i' ∧ i' ≤ j' ∧ j' ≤ 7) (e : i * 8 - i * (i - 1) / 2 + j - i = i' * 8 - i' * (i' - 1) / 2 + j' - i') : i = i' ∧ j = j' := by
  rcases c8 (j := i) h.1 (by omega) with rfl | rfl | rfl | rfl | rfl | rfl | rfl | rfl <;> rcases c8 (j := i') h'.1 (by omega) with rfl | rfl | rfl | rfl | rfl | rfl | rfl | rfl <;> omega
theorem mt_p2 {p q p' q' : Int} (h : 0 ≤ p ∧ p < q ∧ q ≤ 10) (h' : 0 ≤ p' ∧ p' < q' ∧ q' ≤ 10) (e : p * 10 - p * (p - 1) / 2 + q - p - 1 = p' * 10 - p' * (p' - 1) / 2 + q' - p' - 1) : p = p' ∧ q = q' := by
  rcases c9 (j := p) h.1 (by omega) with rfl | rfl | rfl | rfl | rfl | rfl | rfl | rfl | rfl | rfl <;> rcases c9 (j := p') h'.1 (by omega) with rfl | rfl | rfl | rfl | rfl | rfl | rfl | rfl | rfl | rfl <;> omega
theorem mp_b {i j p q s : Int} (h : okM i j p q s) : 0 ≤ mp i j p q s ∧ mp i j p q s < 3960 := by
  have h1 := mt_i h.1
  have h2 := mt_p h.2.1
  have h3 := h.2.2
  unfold mp
  omega
theorem mp_inj {i j p q s i' j' p' q' s' : Int} (h : okM i j p q s) (h' : okM i' j' p' q' s') (e : mp i j p q s = mp i' j' p' q' s') : i = i' ∧ j = j' ∧ p = p' ∧ q = q' ∧ s = s' := by
  have h1 := mt_i h.1
  have h2 := mt_p h.2.1
  have h3 := h.2.2
  have h1' := mt_i h'.1
  have h2' := mt_p h'.2.1
  have h3' := h'.2.2
  unfold mp at e
  have e3 : s = s' := by omega
  have e2 : p * 10 - p * (p - 1) / 2 + q - p - 1 = p' * 10 - p' * (p' - 1) / 2 + q' - p' - 1 := by omega
  have e1 : i * 8 - i * (i - 1) / 2 + j - i = i' * 8 - i' * (i' - 1) / 2 + j' - i' := by omega
  obtain ⟨z1, z2⟩ := mt_i2 h.1 h'.1 e1
  obtain ⟨z3, z4⟩ := mt_p2 h.2.1 h'.2.1 e2
  exact ⟨z1, z2, z3, z4, e3⟩
theorem s_at {i j p q s : Int} (h : okM i j p q s) (hP : P (mp i j p q s) μ) : CI G l (d + 1) mX12_at [xi i, xi j, xi p, xi q, xi s] μ P := by
  apply E_X12_at
  have h1 := mp_b h
  unfold mp at h1 hP
  refine ⟨?_, ?_, by omega, hP⟩
  · rcases c8 (j := i) h.1.1 (by have := h.1; omega) with rfl | rfl | rfl | rfl | rfl | rfl | rfl | rfl <;> omega
  · rcases c9 (j := p) h.2.1.1 (by have := h.2.1; omega) with rfl | rfl | rfl | rfl | rfl | rfl | rfl | rfl | rfl | rfl <;> omega
/-- what a table holds at a place -/
def HdX (kw kc kl kb : Nat) (μ : xMem) (x : Int) (T : Tri) : Prop := μ kw x = cap 1000 T.1 ∧ μ kc x = cs T ∧ Nb kl kb μ x (nm T)
/-- only the scratch of one piece has changed -/
def FmN (μ ν : xMem) : Prop := ∀ k i, (k < 102 ∨ 107 ≤ k) → (k ≠ 74 ∨ i < 43 ∨ 49 < i) → ν k i = μ k i
theorem FmN.rf : FmN μ μ := fun _ _ _ _ => rfl
theorem FmN.tr {m1 m2 m3 : xMem} (h1 : FmN m1 m2) (h2 : FmN m2 m3) : FmN m1 m3 := fun k i a b => (h2 k i a b).trans (h1 k i a b)
theorem FmN.s (h : FmN μ ν) : FmS μ ν := fun k i a b => h k i (by omega) (by omega)
theorem FmC.n (h : FmC μ ν) : FmN μ ν := fun k i a b => h k i (by omega) (by omega) (by omega)
theorem FmT.n (h : FmT μ ν) : FmN μ ν := fun k i a b => h k i (by omega) (by omega)
theorem HdX.kept {kw kc kl kb : Nat} {x : Int} {T : Tri} (h : HdX kw kc kl kb μ x T) (hf : FmN μ ν) (h1 : kw < 102 ∧ kw ≠ 74) (h2 : kc < 102 ∧ kc ≠ 74) (h3 : kl < 102 ∧ kl ≠ 74) (h4 : kb < 102 ∧ kb ≠ 74) : HdX kw kc kl kb ν x T := ⟨by rw [hf kw _ (Or.inl h1.1) (Or.inl h1.2)]; exact h.1, by rw [hf kc _ (Or.inl h2.1) (Or.inl h2.2)]; exact h.2.1, by rw [hf kl _ (Or.inl h3.1) (Or.inl h3.2)]; exact h.2.2.1, fun k hk => by rw [hf kb _ (Or.inl h4.1) (Or.inl h4.2)]; exact h.2.2.2 k hk⟩
theorem md_Run.c {F : Int → Int} {n : Int} (h : md_Run μ F n) (hf : FmC μ ν) : md_Run ν F n := ⟨by rw [hf 74 43 (by decide) (by decide) (by decide)]; exact h.1, h.2.1, fun m a b => by rw [hf 102 m (by decide) (by decide) (Or.inl (by decide))]; exact h.2.2 m a b⟩
theorem Aro.c {F : Int → Int} {n : Int} (h : Aro μ F n) (hf : FmC μ ν) : Aro ν F n := ⟨by rw [hf 74 44 (by decide) (by decide) (by decide)]; exact h.1, h.2.1, fun m a b => by rw [hf 103 m (by decide) (by decide) (Or.inl (by decide))]; exact h.2.2 m a b⟩
theorem Cu.kT {T : Tri} (h : Cu μ T) (hf : FmT μ ν) : Cu ν T := by
  obtain ⟨h1, h2, h3, h4⟩ := h
  exact ⟨by rw [hf 74 46 (by decide) (by decide)]; exact h1, by rw [hf 74 47 (by decide) (by decide)]; exact h2, by rw [hf 74 48 (by decide) (by decide)]; exact h3, fun k hk => by rw [hf 105 _ (by decide) (by simp)]; exact h4 k hk⟩
theorem chr_word {i : Int} (h : 0 ≤ i ∧ i ≤ 7) : 65 + i = chr (12 + i) := by
  have := chr_wd ⟨i.toNat, by omega⟩
  simp only at this
  rw [show ((i.toNat : Nat) : Int) = i by omega] at this
  exact this.symm
theorem chr_dig {i : Int} (h : 1 ≤ i ∧ i ≤ 8) : 48 + i = chr (2 + i) := by
  have := chr_dg ⟨i.toNat, by omega⟩ (by simp; omega)
  simp only at this
  rw [show ((i.toNat : Nat) : Int) = i by omega] at this
  exact this.symm
theorem s_sayWords {c y S f e : Int} (hc : c = chr y) (hy : 0 ≤ y ∧ y ≤ 31) (hS : 0 ≤ S ∧ S ≤ 7) (hf : 0 ≤ f ∧ f ≤ e ∧ e ≤ 7) (h : ∀ ν, Dm ν (nSpr y S f e) → FmD μ ν → PV' ν) : CV G l (d + 2) mX12_sayWords [xr G 74, xi c, xi S, xi f, xi e] μ PV' := by
  apply E_X12_sayWords
  refine s_mopen (fun m1 g1 f1 => s_say hc hy g1 (by simp) (fun m2 g2 f2 => s_say (chr_word hS) (by omega) g2 (by simp) (fun m3 g3 f3 => s_say (s := 1) (by decide) (by omega) g3 (by simp) (fun m4 g4 f4 => ?_))))
  have main : ∀ (n : Nat) (v : Int) (L : List Int) (m : xMem), v + n = e + 1 → 0 ≤ v → L.length + n ≤ 40 → Dm m L → FmD μ m → L ++ (wds n v ++ [2]) = nSpr y S f e → K_X12_sayWords_26 G l (d + 2) PV' e v m := by
    intro n
    induction n with
    | zero =>
      intro v L m hv v0 hl gD fD eL
      apply B_X12_sayWords_26
      refine ⟨by omega, by omega, fun _ => s_say (s := 2) (by decide) (by omega) gD (by omega) (fun m5 g6 f5 => h m5 ?_ (fD.tr f5)), fun z => by omega⟩
      have eL2 : L ++ [2] = nSpr y S f e := by rw [← eL]; simp [wds]
      rw [eL2] at g6
      exact g6
    | succ n ih =>
      intro v L m hv v0 hl gD fD eL
      apply B_X12_sayWords_26
      refine ⟨by omega, by omega, fun z => by omega, fun _ => s_say (chr_word (by omega)) (by omega) gD (by omega) (fun m5 g6 f5 => ?_)⟩
      exact ih (v + 1) _ m5 (by omega) (by omega) (by simp; omega) g6 (fD.tr f5) (by rw [← eL]; simp [wds])
  exact main (e - f + 1).toNat f _ m4 (by omega) hf.1 (by simp; omega) g4 (f1.tr (f2.tr (f3.tr f4))) (by simp [nSpr])
theorem s_oneLess {c y S f ah be n M : Int} {F : Int → Int} {T : Tri} (hw : wfW α) (hm : wfM α) (hR : MR α tl w t μ) (hF : md_Run μ F n) (hc : c = chr y) (hy : 20 ≤ y ∧ y ≤ 31) (hS : 0 ≤ S ∧ S ≤ 7) (hf : 0 ≤ f ∧ f < α 87 tl) (hah : 0 ≤ ah ∧ ah ≤ 1) (hbe : 0 ≤ be ∧ be ≤ 1) (hM : M = 2) (hC : Cu μ T) (hT : vW M T) (hTn : vN 2 T)
    (h : ∀ ν, Cu ν (mg (mg T (ind (fit α (cwd α tl f) ah be F n), 3, nCut y S 28 f)) (cntN α t (cwd α tl f) (fun v => fit α v ah be F n) (α 74 21).toNat, 2, nCut y S 29 f)) → FmN μ ν → md_Run ν F n → PV' ν) : CV G l (d + 3) mX12_oneLess [xr G 74, xi c, xi S, xi f, xi ah, xi be] μ PV' := by
  have hcm := hR.2.2.2.1
  have hk := hm.1
  have i0 := ind_01 (fit α (cwd α tl f) ah be F n)
  have cb1 := cntN_le (α := α) (t := t) (a := cwd α tl f) (p := fun v => fit α v ah be F n) (α 74 21).toNat
  have cb0 := cntN_nn (α := α) (t := t) (a := cwd α tl f) (p := fun v => fit α v ah be F n) (α 74 21).toNat
  have n28 : neu 28 := Or.inr (by omega)
  have n29 : neu 29 := Or.inr (by omega)
  have ny : neu y := Or.inr hy.1
  have v1 : vW M (ind (fit α (cwd α tl f) ah be F n), 3, nCut y S 28 f) := v_cut (by omega) (by omega) hS (by omega) (by omega) (by omega) (by omega)
  have v2 : vW M (cntN α t (cwd α tl f) (fun v => fit α v ah be F n) (α 74 21).toNat, 2, nCut y S 29 f) := v_cut (by omega) (by omega) hS (by omega) (by omega) (by omega) (by omega)
  have w1 : vN 2 (ind (fit α (cwd α tl f) ah be F n), 3, nCut y S 28 f) := fun _ => n_cut (by omega) hS ny n28
  have w2 : vN 2 (cntN α t (cwd α tl f) (fun v => fit α v ah be F n) (α 74 21).toNat, 2, nCut y S 29 f) := fun _ => n_cut (by omega) hS ny n29
  apply E_X12_oneLess
  refine s_runAround hF (fun ν0 hA hf0 => ?_)
  have fN0 : FmN μ ν0 := fun k i a b => hf0 k i (by omega) (by omega)
  have hF0 : md_Run ν0 F n := ⟨by rw [hf0 74 43 (by decide) (by decide)]; exact hF.1, hF.2.1, fun m a b => by rw [hf0 102 m (by decide) (Or.inl (by decide))]; exact hF.2.2 m a b⟩
  have hC0 : Cu ν0 T := by
    obtain ⟨h1, h2, h3, h4⟩ := hC
    exact ⟨by rw [hf0 74 46 (by decide) (by decide)]; exact h1, by rw [hf0 74 47 (by decide) (by decide)]; exact h2, by rw [hf0 74 48 (by decide) (by decide)]; exact h3, fun k hk => by rw [hf0 105 _ (by decide) (by simp)]; exact h4 k hk⟩
  -- the name of the one or the other
  have named : ∀ (how ch : Int) (ν : xMem) (Q : xMem → Prop), FmN μ ν → ch = chr how → (how = 28 ∨ how = 29) → Dm ν [y, 12 + S, 1] → (∀ ν', Dm ν' (nCut y S how f) → FmD ν ν' → Q ν') → CV G l (d + 2) mX12_say [xr G 74, xi ch] ν (fun m2 => CV G l (d + 2) mX12_say [xr G 74, xi (65 + f)] m2 (fun m4 => CV G l (d + 2) mX12_say [xr G 74, xi 41] m4 Q)) := by
    intro how ch ν Q fn hch hh hD hQ
    refine s_say hch (by omega) hD (by simp) (fun m2 g2 f2 => s_say (chr_word (by omega)) (by omega) g2 (by simp) (fun m3 g3 f3 => s_say (s := 2) (by decide) (by omega) g3 (by simp) (fun m4 g4 f4 => hQ m4 ?_ (f2.tr (f3.tr f4)))))
    simpa [nCut] using g4
  have opened : ∀ (ν : xMem) (Q : xMem → Prop), (∀ ν', Dm ν' [y, 12 + S, 1] → FmD ν ν' → Q ν') → CV G l (d + 2) mX12_open [xr G 74] ν (fun m5 => CV G l (d + 2) mX12_say [xr G 74, xi c] m5 (fun m7 => CV G l (d + 2) mX12_say [xr G 74, xi (65 + S)] m7 (fun m9 => CV G l (d + 2) mX12_say [xr G 74, xi 40] m9 Q))) := by
    intro ν Q hQ
    refine s_mopen (fun m1 g1 f1 => s_say hc (by omega) g1 (by simp) (fun m2 g2 f2 => s_say (chr_word hS) (by omega) g2 (by simp) (fun m3 g3 f3 => s_say (s := 1) (by decide) (by omega) g3 (by simp) (fun m4 g4 f4 => hQ m4 ?_ (f1.tr (f2.tr (f3.tr f4)))))))
    simpa using g4
  apply B_X12_oneLess_7
  refine ⟨by decide, fun z => absurd z (by decide), fun _ => opened ν0 _ (fun ν1 g1 f1 => ⟨fun z => absurd rfl z, fun _ => ?_⟩)⟩
  apply B_X12_oneLess_49
  refine named 28 108 ν1 _ (fN0.tr f1.c.n) (by decide) (Or.inl rfl) g1 (fun ν2 g2 f2 => ⟨by decide, fun z => absurd rfl z, fun _ => ⟨by omega, ?_⟩⟩)
  have fD := f1.tr f2
  have hR2 := hR.kept (fN0.tr fD.c.n).s
  obtain ⟨q1, q2, q3⟩ := hR2.2.2.2.2.1 f hf.1 hf.2
  rw [q1]
  have second : ∀ ν3, Cu ν3 (mg T (ind (fit α (cwd α tl f) ah be F n), 3, nCut y S 28 f)) → FmC ν2 ν3 → K_X12_oneLess_7 G l (d + 3) PV' c S f ah be (0 + 1) ν3 := by
    intro ν3 g3 f3
    have fC := fD.c.tr f3
    apply B_X12_oneLess_7
    refine ⟨by decide, fun z => absurd z (by decide), fun _ => opened ν3 _ (fun ν4 g4 f4 => ⟨fun _ => ?_, fun z => absurd z (by decide)⟩)⟩
    apply B_X12_oneLess_49
    refine named 29 109 ν4 _ (fN0.tr (fC.tr f4.c).n) (by decide) (Or.inr rfl) g4 (fun ν5 g5 f5 => ⟨by decide, fun _ => ⟨by omega, ?_⟩, fun z => absurd z (by decide)⟩)
    have fC5 := fC.tr (f4.tr f5).c
    have hR5 := hR.kept (fN0.tr fC5.n).s
    rw [(hR5.2.2.2.2.1 f hf.1 hf.2).1]
    refine s_meant hw hm hR5 (hA.c fC5) ⟨q2, q3⟩ hah hbe ?_
    apply B_X12_oneLess_111
    refine ⟨by decide, fun _ => s_moffer (M := M) (m := 2) (T := mg T (ind (fit α (cwd α tl f) ah be F n), 3, nCut y S 28 f)) (u := (cntN α t (cwd α tl f) (fun v => fit α v ah be F n) (α 74 21).toNat, 2, nCut y S 29 f)) (by omega) (g3.kD (f4.tr f5)) (vW_mg hT v1) v2 (vN_mg hT.1 v1.1 hTn w1) w2 (by omega) rfl (by decide) (fun _ => ⟨rfl, g5⟩) (fun ν6 g6 f6 => ?_), fun z => absurd z (by decide)⟩
    apply B_X12_oneLess_7
    exact ⟨by decide, fun _ => h ν6 g6 (fN0.tr (fC5.tr f6).n) (hF0.c (fC5.tr f6)), fun z => absurd z (by decide)⟩
  have go : ∀ x, x = ind (fit α (cwd α tl f) ah be F n) → K_X12_oneLess_111 G l (d + 3) PV' c S f ah be 0 x ν2 := by
    intro x hx
    apply B_X12_oneLess_111
    exact ⟨by decide, fun z => absurd rfl z, fun _ => s_moffer (M := M) (m := 2) (T := T) (u := (ind (fit α (cwd α tl f) ah be F n), 3, nCut y S 28 f)) (by omega) (hC0.kD fD) hT v1 hTn w1 (by omega) (by rw [hx]) (by decide) (fun _ => ⟨rfl, g2⟩) (fun ν3 g3 f3 => second ν3 g3 f3)⟩
  exact s_isAround hw hR2.1 (hA.c fD.c) ⟨q2, q3⟩ hah hbe (fun r hr => ⟨fun r0 => go 0 (ind_f ((bit0 hr).mp r0)).symm, fun r0 => go 1 (ind_t ((bitne hr).mp r0)).symm⟩)
end SpecMPlay
