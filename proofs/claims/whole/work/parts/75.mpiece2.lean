/-! the model: makePiece -/
section SpecMPiece2
variable {G : xG} {l : Launch} {d : Nat} {μ ν α : xMem} {P : Int → xMem → Prop} {PV' : xMem → Prop} {tl w t : Int}
theorem FmN.x {k1 k2 k3 k4 : Nat} {x : Int} {ν' : xMem} (h : FmN μ ν) (h2 : FmX k1 k2 k3 k4 x ν ν') : FmX k1 k2 k3 k4 x μ ν' := fun k i a b c1 c2 c3 c4 => (h2 k i a b c1 c2 c3 c4).trans (h k i a b)
theorem Cu.kF {T : Tri} (h : Cu μ T) (hf : ∀ k i, k ≠ 102 → k ≠ 103 → (k ≠ 74 ∨ (i ≠ 43 ∧ i ≠ 44)) → ν k i = μ k i) : Cu ν T := by
  obtain ⟨h1, h2, h3, h4⟩ := h
  exact ⟨by rw [hf 74 46 (by decide) (by decide) (by decide)]; exact h1, by rw [hf 74 47 (by decide) (by decide) (by decide)]; exact h2, by rw [hf 74 48 (by decide) (by decide) (by decide)]; exact h3, fun k hk => by rw [hf 105 _ (by decide) (by decide) (by simp)]; exact h4 k hk⟩
theorem sd_fl {L s p q : Int} (hs : s = 0 ∨ s = 1) : sdA L (1 - s) p q = L - sdB L s p q ∧ sdB L (1 - s) p q = L - sdA L s p q := by
  rcases hs with rfl | rfl <;> simp [sdA, sdB] <;> omega
theorem sd_in {L s p q x n : Int} (hs : s = 0 ∨ s = 1) : sdA L s (if s = 0 then p + x else q - x - n) ((if s = 0 then p + x else q - x - n) + n) = sdA L s p q + x ∧ sdB L s (if s = 0 then p + x else q - x - n) ((if s = 0 then p + x else q - x - n) + n) = sdA L s p q + x + n := by
  rcases hs with rfl | rfl <;> simp [sdA, sdB] <;> omega
theorem s_makePiece {i j p q s : Int} (hw : wfW α) (hM : wfM α) (hR : MR α tl w t μ) (hs : s = 0 ∨ s = 1) (hp : 0 ≤ p ∧ p < q ∧ q ≤ α 77 w) (hij : 0 ≤ i ∧ i ≤ j ∧ j < α 87 tl)
    (hrow : ∀ f e p' q' s', i ≤ f → f ≤ e → e ≤ j → e - f < j - i → (s' = 0 ∨ s' = 1) → 0 ≤ p' → p' < q' → q' ≤ α 77 w → HdX 95 96 97 99 μ (mp f e p' q' s') (RV (Orc α tl w t) s' f e (sdA (α 77 w) s' p' q') (sdB (α 77 w) s' p' q')))
    (h : ∀ ν, FmX 92 93 94 98 (mp i j p q s) μ ν → HdX 92 93 94 98 ν (mp i j p q s) (PV (Orc α tl w t) s i j (sdA (α 77 w) s p q) (sdB (α 77 w) s p q)) → PV' ν) : CV G l (d + 5) mX12_makePiece [xr G 74, xi i, xi j, xi p, xi q, xi s] μ PV' := by
  have hv := hR.2.2.2.2.2.2.1
  have hO := Orc_ok (tl := tl) (t := t) hw hv
  have ht := hR.2.2.2.1
  have hl := (hw.2 w hv.1 hv.2).1
  have hk := hM.1
  obtain ⟨a, ha⟩ : ∃ a, a = sdA (α 77 w) s p q := ⟨_, rfl⟩
  obtain ⟨b, hb⟩ : ∃ b, b = sdB (α 77 w) s p q := ⟨_, rfl⟩
  rw [← ha, ← hb] at h
  have hba : b - a = q - p := by rw [ha, hb]; unfold sdA sdB; split <;> omega
  have hab : 0 ≤ a ∧ a < b ∧ b ≤ α 77 w := by rw [ha, hb]; unfold sdA sdB; split <;> omega
  have hom : okM i j p q s := ⟨by omega, by omega, hs⟩
  have hvP : vW (j - i + 1) (PV (Orc α tl w t) s i j a b) := v_PV hO (by omega) (by omega) (by omega) (show b ≤ α 77 w by omega)
  have fin : ∀ ν, Cu ν (PV (Orc α tl w t) s i j a b) → FmN μ ν → K_X12_makePiece_227 G l (d + 5) PV' i j p q s ν := by
    intro ν hC hf
    apply B_X12_makePiece_227
    exact s_at hom ⟨mp_b hom, s_keepPiece (M := j - i + 1) (by omega) (mp_b hom) hvP hC (fun ν2 f2 g2 => h ν2 (hf.x f2) g2)⟩
  have ePV := PV_eq (Orc α tl w t) (s := s) (i := i) (j := j) (a := a) (b := b) (by omega) (by omega) (by omega)
  apply E_X12_makePiece
  refine s_clear (fun ν0 g0 f0 => s_takeRun hw (hR.kept f0.s) hs hp (fun ν1 g1 f1 => ?_))
  have fN1 : FmN μ ν1 := f0.n.tr (fun k i a b => f1 k i (by omega) (by omega))
  have hC1 : Cu ν1 T0 := g0.kF (fun k i a b c => f1 k i a (by omega))
  have hR1 := hR.kept fN1.s
  have g1' := g1
  rw [← ha, ← hb] at g1'
  refine ⟨by omega, by omega, fun hne => ?_, fun he => ?_⟩
  · -- several words
    have hvA : vL (j - i + 1) (oAll (Orc α tl w t) (RV (Orc α tl w t)) s i j a b) := v_all hO (by omega) (by show 0 ≤ a ∧ a < b ∧ b ≤ α 77 w; exact hab) (fun s i' j' a b h1 h2 h3 h4 h5 => v_RV hO (by omega) (by omega) h4 h5)
    have hnA : nL (j - i + 1) (oAll (Orc α tl w t) (RV (Orc α tl w t)) s i j a b) := n_all hO.2.2.2.2.2 (by omega) (by show 0 ≤ a ∧ a < b ∧ b ≤ α 77 w; exact hab) (fun s i' j' a b h1 h2 h3 h4 h5 => n_RV hO (by omega) (by omega) h4 h5)
    have hpm := pc_perm (O := Orc α tl w t) (R := RV (Orc α tl w t)) (s := s) (i := i) (j := j) (a := a) (b := b) (by omega)
    have hvu : vL (j - i + 1) (oPc (Orc α tl w t) (RV (Orc α tl w t)) s i j a b) := fun u hu => hvA u (hpm.mem_iff.mp hu)
    have hnu : nL (j - i + 1) (oPc (Orc α tl w t) (RV (Orc α tl w t)) s i j a b) := fun u hu => hnA u (hpm.mem_iff.mp hu)
    have hPV : PV (Orc α tl w t) s i j a b = mgL (mgL (mgL (mgL T0 (oBy (Orc α tl w t) (RV (Orc α tl w t)) s a b i (i + 1) j)) (oBy (Orc α tl w t) (RV (Orc α tl w t)) s a b j i (j - 1))) (oInM (Orc α tl w t) (RV (Orc α tl w t)) s i j a b)) (oAboutM (Orc α tl w t) (RV (Orc α tl w t)) s i j a b) := by
      rw [ePV, pieceEq, if_neg hne]
      have e1 := mgL_perm (m := j - i + 1) (by omega) hpm T0 (vW_T0 _) hvu
      unfold oAll at e1
      rw [← e1, oPc, mgL_app, mgL_app, mgL_app]
    have vA : vL (j - i + 1) (oBy (Orc α tl w t) (RV (Orc α tl w t)) s a b i (i + 1) j) := fun u hu => hvu u (by unfold oPc; simp [hu])
    have vB : vL (j - i + 1) (oBy (Orc α tl w t) (RV (Orc α tl w t)) s a b j i (j - 1)) := fun u hu => hvu u (by unfold oPc; simp [hu])
    have vC : vL (j - i + 1) (oInM (Orc α tl w t) (RV (Orc α tl w t)) s i j a b) := fun u hu => hvu u (by unfold oPc; simp [hu])
    have nA : nL (j - i + 1) (oBy (Orc α tl w t) (RV (Orc α tl w t)) s a b i (i + 1) j) := fun u hu => hnu u (by unfold oPc; simp [hu])
    have nB : nL (j - i + 1) (oBy (Orc α tl w t) (RV (Orc α tl w t)) s a b j i (j - 1)) := fun u hu => hnu u (by unfold oPc; simp [hu])
    have nC : nL (j - i + 1) (oInM (Orc α tl w t) (RV (Orc α tl w t)) s i j a b) := fun u hu => hnu u (by unfold oPc; simp [hu])
    have wA := vW_mgL _ (vW_T0 (j - i + 1)) vA
    have wB := vW_mgL _ wA vB
    have wC := vW_mgL _ wB vC
    have mA := vN_mgL _ (vW_T0 (j - i + 1)).1 (vN_T0 (j - i + 1)) vA nA
    have mB := vN_mgL _ wA.1 mA vB nB
    have mC := vN_mgL _ wB.1 mB vC nC
    have row : ∀ f e ν, FmN μ ν → i ≤ f → f ≤ e → e ≤ j → e - f < j - i → HdX 95 96 97 99 ν (mp f e p q (1 - s)) (RV (Orc α tl w t) (1 - s) f e (α 77 w - sdB (α 77 w) s p q) (α 77 w - sdA (α 77 w) s p q)) := by
      intro f e ν hf h1 h2 h3 h4
      have := (hrow f e p q (1 - s) h1 h2 h3 h4 (by omega) hp.1 hp.2.1 hp.2.2).kept hf (by decide) (by decide) (by decide) (by decide)
      rw [(sd_fl hs).1, (sd_fl hs).2] at this
      exact this
    have row2 : ∀ f e ν, FmN μ ν → i ≤ f → f ≤ e → e ≤ j → e - f < j - i → ∀ x n, 1 ≤ x → 1 ≤ n → x + n < q - p → HdX 95 96 97 99 ν (mp f e (if s = 0 then p + x else q - x - n) ((if s = 0 then p + x else q - x - n) + n) s) (RV (Orc α tl w t) s f e (a + x) (a + x + n)) := by
      intro f e ν hf h1 h2 h3 h4 x n x1 n1 hx
      have := (hrow f e (if s = 0 then p + x else q - x - n) ((if s = 0 then p + x else q - x - n) + n) s h1 h2 h3 h4 hs (by split <;> omega) (by omega) (by split <;> omega)).kept hf (by decide) (by decide) (by decide) (by decide)
      rw [(sd_in hs).1, (sd_in hs).2, ← ha] at this
      exact this
    have k179 : ∀ ν, Cu ν (mgL (mgL (mgL T0 (oBy (Orc α tl w t) (RV (Orc α tl w t)) s a b i (i + 1) j)) (oBy (Orc α tl w t) (RV (Orc α tl w t)) s a b j i (j - 1))) (oInM (Orc α tl w t) (RV (Orc α tl w t)) s i j a b)) → FmN μ ν → md_Run ν (tgF α w (tgA s a b)) (q - p) → K_X12_makePiece_179 G l (d + 5) PV' i j p q s ν := by
      intro ν hC hf hF
      have hR2 := hR.kept hf.s
      have no : ¬ (2 ≤ j - i ∧ (Orc α tl w t).2.2.2.1 (i + 1) 8 ≠ 0) → K_X12_makePiece_227 G l (d + 5) PV' i j p q s ν := by
        intro z
        refine fin ν ?_ hf
        rw [hPV, show oAboutM (Orc α tl w t) (RV (Orc α tl w t)) s i j a b = [] by unfold oAboutM; rw [if_neg z], mgL_nil]
        exact hC
      apply B_X12_makePiece_179
      refine ⟨by omega, by omega, fun z => no (by omega), fun z => ?_⟩
      obtain ⟨q1, q2, q3⟩ := hR2.2.2.2.2.1 (i + 1) (by omega) (by omega)
      have sb := sgn_bit (k := 8) hR2.2.1 ⟨q2, q3⟩ (by omega)
      have hn := hw.1
      rw [q1]
      refine ⟨by omega, by omega, fun z2 => no (fun y => y.2 (ind_f (fun y2 => z2 (sb.mpr y2)))), fun z2 => ?_⟩
      have sg : 2 ≤ j - i ∧ (Orc α tl w t).2.2.2.1 (i + 1) 8 ≠ 0 := ⟨by omega, ind_ne.mpr (sb.mp z2)⟩
      refine s_putIn (y := 20) (m := j - i + 1) hw hM hR2 hs hp ha hb (by decide) (by omega) (by omega) (by omega) (by omega) (by omega) (by omega) hC hF wC mC (row2 (i + 2) j ν hf (by omega) (by omega) (by omega) (by omega)) (fun ν2 c2 f2 _ => fin ν2 ?_ (hf.tr f2))
      rw [hPV]
      have e1 : oAboutM (Orc α tl w t) (RV (Orc α tl w t)) s i j a b = oMN (Orc α tl w t) (RV (Orc α tl w t)) s a b 20 (i + 1) i (i + 2) j (q - p - 2).toNat := by
        unfold oAboutM; rw [if_pos sg, hba]
      rw [e1]
      exact c2
    refine s_bySign (m := j - i + 1) hw hM hR1 hs hp (by omega) (by omega) (by omega) (by omega) hC1 g1 (vW_T0 _) (vN_T0 _) (row (i + 1) j ν1 fN1 (by omega) (by omega) (by omega) (by omega)) (fun ν2 c2 f2 r2 => ?_)
    have fN2 := fN1.tr f2
    rw [← ha, ← hb] at c2
    refine s_bySign (m := j - i + 1) hw hM (hR.kept fN2.s) hs hp (by omega) (by omega) (by omega) (by omega) c2 r2 wA mA (row i (j - 1) ν2 fN2 (by omega) (by omega) (by omega) (by omega)) (fun ν3 c3 f3 r3 => ?_)
    have fN3 := fN2.tr f3
    rw [← ha, ← hb] at c3 r3
    have hR3 := hR.kept fN3.s
    have no : ¬ (2 ≤ j - i ∧ (Orc α tl w t).2.2.2.1 (j - 1) 7 ≠ 0) → K_X12_makePiece_179 G l (d + 5) PV' i j p q s ν3 := by
      intro z
      refine k179 ν3 ?_ fN3 r3
      rw [show oInM (Orc α tl w t) (RV (Orc α tl w t)) s i j a b = [] by unfold oInM; rw [if_neg z], mgL_nil]
      exact c3
    refine ⟨by omega, fun z => no (by omega), fun z => ?_⟩
    obtain ⟨q1, q2, q3⟩ := hR3.2.2.2.2.1 (j - 1) (by omega) (by omega)
    have sb := sgn_bit (k := 7) hR3.2.1 ⟨q2, q3⟩ (by omega)
    have hn := hw.1
    rw [q1]
    refine ⟨by omega, by omega, fun z2 => no (fun y => y.2 (ind_f (fun y2 => z2 (sb.mpr y2)))), fun z2 => ?_⟩
    have sg : 2 ≤ j - i ∧ (Orc α tl w t).2.2.2.1 (j - 1) 7 ≠ 0 := ⟨by omega, ind_ne.mpr (sb.mp z2)⟩
    refine s_putIn (y := 26) (m := j - i + 1) hw hM hR3 hs hp ha hb (by decide) (by omega) (by omega) (by omega) (by omega) (by omega) (by omega) c3 r3 wB mB (row2 i (j - 2) ν3 fN3 (by omega) (by omega) (by omega) (by omega)) (fun ν4 c4 f4 r4 => k179 ν4 ?_ (fN3.tr f4) r4)
    have e1 : oInM (Orc α tl w t) (RV (Orc α tl w t)) s i j a b = oMN (Orc α tl w t) (RV (Orc α tl w t)) s a b 26 (j - 1) j i (j - 2) (q - p - 2).toNat := by
      unfold oInM; rw [if_pos sg, hba]
    rw [e1]
    exact c4
  · -- one word
    subst he
    have o1 : (Orc α tl w t).1 i 0 0 (tgA s a b) = ind (fit α (cwd α tl i) 0 0 (tgF α w (tgA s a b)) (q - p)) := by
      show ind (fit α (cwd α tl i) 0 0 (tgF α w (tgA s a b)) (tgL (tgA s a b))) = _
      rw [tgL_A, hba]
    have o2 : (Orc α tl w t).2.1 i 0 0 (tgA s a b) = cntN α t (cwd α tl i) (fun v => fit α v 0 0 (tgF α w (tgA s a b)) (q - p)) (α 74 21).toNat := by
      show cntN α t (cwd α tl i) (fun v => fit α v 0 0 (tgF α w (tgA s a b)) (tgL (tgA s a b))) (α 74 21).toNat = _
      rw [tgL_A, hba]
    have hPV : PV (Orc α tl w t) s i i a b = mg (mg T0 (ind (fit α (cwd α tl i) 0 0 (tgF α w (tgA s a b)) (q - p)), 2, [28, 12 + i])) (cntN α t (cwd α tl i) (fun v => fit α v 0 0 (tgF α w (tgA s a b)) (q - p)) (α 74 21).toNat, 1, [29, 12 + i]) := by
      rw [ePV, pieceEq, if_pos rfl, o1, o2]
      rfl
    have i0 := ind_01 (fit α (cwd α tl i) 0 0 (tgF α w (tgA s a b)) (q - p))
    have cb1 := cntN_le (α := α) (t := t) (a := cwd α tl i) (p := fun v => fit α v 0 0 (tgF α w (tgA s a b)) (q - p)) (α 74 21).toNat
    have cb0 := cntN_nn (α := α) (t := t) (a := cwd α tl i) (p := fun v => fit α v 0 0 (tgF α w (tgA s a b)) (q - p)) (α 74 21).toNat
    have v1 : vW 1 (ind (fit α (cwd α tl i) 0 0 (tgF α w (tgA s a b)) (q - p)), 2, [28, 12 + i]) := ⟨by simp only; omega, fun _ => ⟨okN_cons (by omega) (ok1 (by omega)), by simp, by simp, by simp⟩⟩
    have v2 : vW 1 (cntN α t (cwd α tl i) (fun v => fit α v 0 0 (tgF α w (tgA s a b)) (q - p)) (α 74 21).toNat, 1, [29, 12 + i]) := ⟨cb0, fun _ => ⟨okN_cons (by omega) (ok1 (by omega)), by simp, by simp, by simp⟩⟩
    have w1 : vN 1 (ind (fit α (cwd α tl i) 0 0 (tgF α w (tgA s a b)) (q - p)), 2, [28, 12 + i]) := fun _ => val_2 (Or.inr (by omega)) (by omega)
    have w2 : vN 1 (cntN α t (cwd α tl i) (fun v => fit α v 0 0 (tgF α w (tgA s a b)) (q - p)) (α 74 21).toNat, 1, [29, 12 + i]) := fun _ => val_2 (Or.inr (by omega)) (by omega)
    refine s_runAround g1' (fun ν2 hA f2 => s_mopen (fun m1 e1 k1 => s_say (s := 28) (by decide) (by omega) e1 (by simp) (fun m2 e2 k2 => s_say (chr_word (by omega)) (by omega) e2 (by simp) (fun m3 e3 k3 => ⟨by omega, ?_⟩))))
    have fN2 : FmN μ ν2 := fN1.tr (fun k i a b => f2 k i (by omega) (by omega))
    have hC2 : Cu ν2 T0 := hC1.kF (fun k i a b c => f2 k i b (by omega))
    have fD := k1.tr (k2.tr k3)
    have fN3 := fN2.tr fD.c.n
    have hR3 := hR.kept fN3.s
    obtain ⟨q1, q2, q3⟩ := hR3.2.2.2.2.1 i (by omega) (by omega)
    have go : ∀ x, x = ind (fit α (cwd α tl i) 0 0 (tgF α w (tgA s a b)) (q - p)) → K_X12_makePiece_61 G l (d + 5) PV' i i p q s x m3 := by
      intro x hx
      apply B_X12_makePiece_61
      refine s_moffer (M := 1) (m := 1) (T := T0) (u := (ind (fit α (cwd α tl i) 0 0 (tgF α w (tgA s a b)) (q - p)), 2, [28, 12 + i])) (by omega) (hC2.kD fD) (vW_T0 _) v1 (vN_T0 _) w1 (by omega) (by rw [hx]) (by decide) (fun _ => ⟨rfl, by simpa using e3⟩) (fun m4 c4 f4 => ?_)
      refine s_mopen (fun m5 e5 k5 => s_say (s := 29) (by decide) (by omega) e5 (by simp) (fun m6 e6 k6 => s_say (chr_word (by omega)) (by omega) e6 (by simp) (fun m7 e7 k7 => ⟨by omega, ?_⟩)))
      have fD7 := k5.tr (k6.tr k7)
      have fC7 := fD.c.tr (f4.tr fD7.c)
      have hR7 := hR.kept (fN2.tr fC7.n).s
      rw [(hR7.2.2.2.2.1 i (by omega) (by omega)).1]
      refine s_meant hw hM hR7 (hA.c fC7) ⟨q2, q3⟩ (by omega) (by omega) ?_
      refine s_moffer (M := 1) (m := 1) (T := mg T0 (ind (fit α (cwd α tl i) 0 0 (tgF α w (tgA s a b)) (q - p)), 2, [28, 12 + i])) (u := (cntN α t (cwd α tl i) (fun v => fit α v 0 0 (tgF α w (tgA s a b)) (q - p)) (α 74 21).toNat, 1, [29, 12 + i])) (by omega) (c4.kD fD7) (vW_mg (vW_T0 _) v1) v2 (vN_mg (vW_T0 1).1 v1.1 (vN_T0 _) w1) w2 (by omega) rfl (by decide) (fun _ => ⟨rfl, by simpa using e7⟩) (fun m8 c8 f8 => fin m8 ?_ (fN2.tr (fC7.tr f8).n))
      rw [hPV]
      exact c8
    rw [q1]
    exact s_isAround hw hR3.1 (hA.c fD.c) ⟨q2, q3⟩ (by omega) (by omega) (fun r hr => ⟨fun r0 => go 0 (ind_f ((bit0 hr).mp r0)).symm, fun r0 => go 1 (ind_t ((bitne hr).mp r0)).symm⟩)
end SpecMPiece2
