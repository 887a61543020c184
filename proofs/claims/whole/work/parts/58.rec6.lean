/-! Reader: pieces; all of them; a clue by an answer -/
section SpecRec6
variable {G : xG} {l : Launch} {d : Nat} {μ ν ν' α : xMem} {P : Int → xMem → Prop} {PV' : xMem → Prop} {tl w t : Int}
/-- a piece of one word -/
theorem KC_one (M : Nat) {D' : Nat} {s i a b dp : Int} (hE : cl_Env α tl w t μ) (hS : StB μ) (hI : Inv (Orc α tl w t) M μ) (hs : s = 0 ∨ s = 1) (hi : 0 ≤ i ∧ i < α 87 tl) (ha : 0 ≤ a ∧ a < b) (hb : b ≤ α 77 w) (hdp : 0 ≤ dp ∧ dp + M ≤ 40) (h : ∀ r ν, Pst (Orc α tl w t) (0 : Nat) μ r ν (2 + s) i i a b → P r ν) : CI G l (D' + 6) mX8_pieceOf [xr G 26, xi s, xi i, xi i, xi a, xi b, xi dp] μ P := by
  have ht := hE.2.2.2.2.1.2.1
  have hv := hE.2.2.2.2.2.1.2.1
  have hl := (hE.1.2 w hv.1 hv.2).1
  have ho : okP (2 + s) i i a b := ⟨by omega, by omega, by omega⟩
  have hm : ms (2 + s) i i = (0 : Nat) := by rw [ms_p hs]; omega
  have hno : noP ((0 : Nat) - 1) (pc (2 + s) i i a b) := own_no ho hm
  have hpb := pc_b ho
  have hI0 : Inv (Orc α tl w t) (0 : Nat) μ := hI.le (by omega)
  apply E_X8_pieceOf
  refine ⟨by omega, by omega, fun z => by omega, fun _ => ⟨by omega, by omega, fun z => by omega, fun _ => ⟨by omega, fun _ => s_placeOf ho (s_isOpen hS (by omega) (fun r hr => ⟨fun r0 => s_open (by omega) ?_, fun r0 => h _ _ (Pst_op hI0 hS ho (by omega) ((bitne hr).mp r0))⟩)), fun z => by omega⟩⟩⟩
  have B0 := BS.init (O := Orc α tl w t) (M := (0 : Nat)) hE.2.2.2.2.2.2 hS hI0 hno (by omega)
  obtain ⟨h1, h2, h3, h4, h5, h6, h7⟩ := hE.kept B0.1
  refine s_aimAt h1 h6 hs (by omega) (show 1 ≤ tgL (tgA s a b) by rw [tgL_A]; omega) (fun ν1 f1 hA => ⟨fun z => absurd rfl z, fun _ => ?_⟩)
  have B1 := B0.aim f1
  rw [show tgL (s, a, b, b, b) = b - a from tgL_A] at hA
  refine s_addPlain (s := s) (a := a) (b := b) (hE.kept B1.1) (by omega) hi hA B1.2.2.2.2.2.1 (fun ν2 f2 g2 => h _ _ (BS.fin ho hm hI0 ?_))
  rw [vl_p hs, PV_eq (Orc α tl w t) (Int.le_refl _) (by omega) ha.2, pieceEq, if_pos rfl]
  exact B1.q hno (by omega) f2 g2
theorem KC_piece (hD : wfD α) (M : Nat) (ih : cl_KC G l α tl w t M) {D' : Nat} (hDp : 2 * M ≤ D') {s i j a b dp : Int} (hE : cl_Env α tl w t μ) (hS : StB μ) (hI : Inv (Orc α tl w t) (M + 1 : Nat) μ) (hs : s = 0 ∨ s = 1) (hi : 0 ≤ i ∧ i < j) (hj : j < α 87 tl) (ha : 0 ≤ a ∧ a < b) (hb : b ≤ α 77 w) (hdp : 0 ≤ dp ∧ dp + (M + 1 : Nat) ≤ 40) (hM : 2 * (j - i) = (M + 1 : Nat)) (h : ∀ r ν, Pst (Orc α tl w t) (M + 1 : Nat) μ r ν (2 + s) i j a b → P r ν) : CI G l (D' + 8) mX8_pieceOf [xr G 26, xi s, xi i, xi j, xi a, xi b, xi dp] μ P := by
  have ht := hE.2.2.2.2.1.2.1
  have hv := hE.2.2.2.2.2.1.2.1
  have hl := (hE.1.2 w hv.1 hv.2).1
  have hO := Orc_ok (tl := tl) (t := t) hE.1 hv
  have hOl : (Orc α tl w t).2.2.2.2 = α 77 w := rfl
  have ho : okP (2 + s) i j a b := ⟨by omega, by omega, by omega⟩
  have hm : ms (2 + s) i j = (M + 1 : Nat) := by rw [ms_p hs]; exact hM
  have hno : noP ((M + 1 : Nat) - 1) (pc (2 + s) i j a b) := own_no ho hm
  have hpb := pc_b ho
  have eM : (((M + 1 : Nat) : Int) - 1) = (M : Nat) := by omega
  have es : ∀ S k, (Orc α tl w t).2.2.2.1 S k = ind (isSg α t (cwd α tl S) k) := fun _ _ => rfl
  have hs' : 1 - s = 0 ∨ 1 - s = 1 := by omega
  have peq := PV_eq (Orc α tl w t) (s := s) (Int.le_of_lt hi.2) (by omega) ha.2
  rw [pieceEq, if_neg (show ¬ i = j by omega), mgL_app, mgL_app, mgL_cons, mgL_cons, mgL_app] at peq
  have vR : ∀ i' j' a' b', 0 ≤ i' → j' ≤ j → j' - i' = j - i - 1 → 0 ≤ a' → b' ≤ α 77 w → vW (j - i + 1 - 1) (RV (Orc α tl w t) (1 - s) i' j' a' b') := fun i' j' a' b' z1 z2 z3 z4 z5 => by
    have := v_RV hO (s := 1 - s) (i := i') (j := j') (a := a') (b := b') z1 (by omega) z4 (by rw [hOl]; exact z5)
    rw [show j - i + 1 - 1 = j' - i' + 1 by omega]
    exact this
  have v1 : vW (j - i + 1) (mgL T0 (oSgd (Orc α tl w t) s a b i (i + 1) j)) := vW_mgL _ (vW_T0 _) (v_sgd hO (by omega) (by omega) (by omega))
  have v2 : vW (j - i + 1) (mgL (mgL T0 (oSgd (Orc α tl w t) s a b i (i + 1) j)) (oSgd (Orc α tl w t) s a b j i (j - 1))) := vW_mgL _ v1 (v_sgd hO (by omega) (by omega) (by omega))
  generalize hT2 : mgL (mgL T0 (oSgd (Orc α tl w t) s a b i (i + 1) j)) (oSgd (Orc α tl w t) s a b j i (j - 1)) = T2 at v2 peq
  have r1 : vW (j - i + 1 - 1) (RV (Orc α tl w t) (1 - s) (i + 1) j (α 77 w - b) (α 77 w - a)) := vR _ _ _ _ (by omega) (by omega) (by omega) (by omega) (by omega)
  have r2 : vW (j - i + 1 - 1) (RV (Orc α tl w t) (1 - s) i (j - 1) (α 77 w - b) (α 77 w - a)) := vR _ _ _ _ (by omega) (by omega) (by omega) (by omega) (by omega)
  have v3 : vW (j - i + 1) (mg T2 (oTrn (Orc α tl w t) (RV (Orc α tl w t)) s a b i (i + 1) j)) := vW_mg v2 (v_trn hO (by omega) r1)
  have v4 : vW (j - i + 1) (mg (mg T2 (oTrn (Orc α tl w t) (RV (Orc α tl w t)) s a b i (i + 1) j)) (oTrn (Orc α tl w t) (RV (Orc α tl w t)) s a b j i (j - 1))) := vW_mg v3 (v_trn hO (by omega) r2)
  have t1 : oTrn (Orc α tl w t) (RV (Orc α tl w t)) s a b i (i + 1) j = (ind (isSg α t (cwd α tl i) 4) * (RV (Orc α tl w t) (1 - s) (i + 1) j (α 77 w - b) (α 77 w - a)).1, 1 + (RV (Orc α tl w t) (1 - s) (i + 1) j (α 77 w - b) (α 77 w - a)).2.1, nTrn i (RV (Orc α tl w t) (1 - s) (i + 1) j (α 77 w - b) (α 77 w - a)).2.2) := rfl
  have t2 : oTrn (Orc α tl w t) (RV (Orc α tl w t)) s a b j i (j - 1) = (ind (isSg α t (cwd α tl j) 4) * (RV (Orc α tl w t) (1 - s) i (j - 1) (α 77 w - b) (α 77 w - a)).1, 1 + (RV (Orc α tl w t) (1 - s) i (j - 1) (α 77 w - b) (α 77 w - a)).2.1, nTrn j (RV (Orc α tl w t) (1 - s) i (j - 1) (α 77 w - b) (α 77 w - a)).2.2) := rfl
  generalize hT3 : mg T2 (oTrn (Orc α tl w t) (RV (Orc α tl w t)) s a b i (i + 1) j) = T3 at v3 v4 peq
  generalize hT4 : mg T3 (oTrn (Orc α tl w t) (RV (Orc α tl w t)) s a b j i (j - 1)) = T4 at v4 peq
  have fin : ∀ ν, BS (Orc α tl w t) (pc (2 + s) i j a b) (M + 1 : Nat) μ ν (PV (Orc α tl w t) s i j a b) → P (pc (2 + s) i j a b) ν := by
    intro ν hB
    refine h _ _ (BS.fin ho hm hI ?_)
    rw [vl_p hs]
    exact hB
  have v5 : vW (j - i + 1) (mgL T4 (oIn (Orc α tl w t) (RV (Orc α tl w t)) s i j a b)) := by
    refine vW_mgL _ v4 ?_
    unfold oIn
    split
    · by_cases c : a + 1 ≤ b - 1
      · refine v_ardP hO (by omega) (by omega) (by omega) (by omega) (fun p q p1 p2 p3 => ?_) _ (by omega)
        rw [show j - i + 1 - 2 = (j - 2) - i + 1 by omega]
        exact v_RV hO hi.1 (by omega) (by omega) (by rw [hOl]; omega)
      · rw [show (b - 1 - (a + 1)).toNat = 0 by omega]
        exact vL_nil
    · exact vL_nil
  have k255 : ∀ ν, BS (Orc α tl w t) (pc (2 + s) i j a b) (M + 1 : Nat) μ ν (mgL T4 (oIn (Orc α tl w t) (RV (Orc α tl w t)) s i j a b)) → K_X8_pieceOf_255 G l (D' + 8) P s i j a b dp (pc (2 + s) i j a b) ν := by
    intro ν hB
    unfold oAbout at peq
    apply B_X8_pieceOf_255
    refine ⟨by omega, fun z => ⟨by omega, fin ν ?_⟩, fun z => s_isSign (hE.kept hB.1).2.2.2.2.1 (by omega) (by omega) (fun r hr => ⟨fun r0 => ⟨by omega, fin ν ?_⟩, fun r0 => KC_putIn hD M ih hDp (S := i + 1) (rd := i) (f := i + 2) (e := j) (y := 20) hE hs (by omega) hj ha hb hdp hM (Or.inr ⟨rfl, rfl, rfl, rfl, rfl, rfl⟩) v5 hB (fun ν' hB' => ⟨by omega, fin ν' ?_⟩)⟩)⟩
    · rw [peq, if_neg (by omega)]
      exact hB
    · rw [peq, if_neg (fun q => q.2 (by rw [es]; exact ind_f ((bit0 hr).mp r0)))]
      exact hB
    · rw [peq, if_pos ⟨by omega, by rw [es, ind_t ((bitne hr).mp r0)]; decide⟩]
      exact hB'
  have k218 : ∀ ν, BS (Orc α tl w t) (pc (2 + s) i j a b) (M + 1 : Nat) μ ν T4 → K_X8_pieceOf_218 G l (D' + 8) P s i j a b dp (pc (2 + s) i j a b) ν := by
    intro ν hB
    unfold oIn at k255
    apply B_X8_pieceOf_218
    refine ⟨by omega, fun z => k255 ν ?_, fun z => s_isSign (hE.kept hB.1).2.2.2.2.1 (by omega) (by omega) (fun r hr => ⟨fun r0 => k255 ν ?_, fun r0 => KC_putIn hD M ih hDp (S := j - 1) (rd := j) (f := i) (e := j - 2) (y := 26) hE hs (by omega) hj ha hb hdp hM (Or.inl ⟨rfl, rfl, rfl, rfl, rfl, rfl⟩) v4 hB (fun ν' hB' => k255 ν' ?_)⟩)⟩
    · rw [if_neg (by omega)]
      exact hB
    · rw [if_neg (fun q => q.2 (by rw [es]; exact ind_f ((bit0 hr).mp r0)))]
      exact hB
    · rw [if_pos ⟨by omega, by rw [es, ind_t ((bitne hr).mp r0)]; decide⟩]
      exact hB'
  have k180 : ∀ ν, BS (Orc α tl w t) (pc (2 + s) i j a b) (M + 1 : Nat) μ ν T3 → K_X8_pieceOf_180 G l (D' + 8) P s i j a b dp (pc (2 + s) i j a b) (α 77 w - b) (α 77 w - a) ν := by
    intro ν hB
    apply B_X8_pieceOf_180
    refine s_isSign (hE.kept hB.1).2.2.2.2.1 (by omega) (by omega) (fun r hr => ⟨fun r0 => k218 ν ?_, fun r0 => ?_⟩)
    · rw [← hT4, t2, mgi_0 ((bit0 hr).mp r0)]
      exact hB
    · have hI1 := hB.2.2.1
      rw [eM] at hI1
      refine (ih (D' + 7) (1 - s) i (j - 1) (α 77 w - b) (α 77 w - a) (dp + 1) ν _ (by omega) (hE.kept hB.1) hB.2.1 hI1 hs' (by omega) (by omega) (by omega) (by omega) (by omega) (by omega)).1 (by omega) (fun rr ν2 hp2 => ?_)
      rw [← eM] at hp2
      obtain ⟨B2, m2, R2⟩ := hB.call hno hp2
      have A2 := R2.hd B2.2.2.1
      rw [vl_r hs'] at A2
      refine s_addTurned (hE.kept B2.1).2.2.2.2.2.2 (by omega) R2.b (R2.ne hno (by omega)) (by omega) (v3.T (by omega)) (r2.T (by omega)) (fun y1 => ?_) B2.2.2.2.2.2.1 A2 (fun ν4 f4 g4 => k218 ν4 ?_)
      · have q1 := r2.2 y1
        omega
      · rw [← hT4, t2, mgi_1 ((bitne hr).mp r0)]
        exact B2.q hno (by omega) f4 g4
  apply E_X8_pieceOf
  refine ⟨by omega, by omega, fun z => by omega, fun _ => ⟨by omega, by omega, fun z => by omega, fun _ => ⟨by omega, fun _ => s_placeOf ho (s_isOpen hS (by omega) (fun r hr => ⟨fun r0 => s_open (by omega) ?_, fun r0 => h _ _ (Pst_op hI hS ho (by omega) ((bitne hr).mp r0))⟩)), fun z => by omega⟩⟩⟩
  have B0 := BS.init (O := Orc α tl w t) (M := (M + 1 : Nat)) hE.2.2.2.2.2.2 hS hI hno (by omega)
  obtain ⟨h1, h2, h3, h4, h5, h6, h7⟩ := hE.kept B0.1
  refine s_aimAt h1 h6 hs (by omega) (show 1 ≤ tgL (tgA s a b) by rw [tgL_A]; omega) (fun ν1 f1 hA => ⟨fun _ => ?_, fun z => by omega⟩)
  have B1 := B0.aim f1
  rw [show tgL (s, a, b, b, b) = b - a from tgL_A] at hA
  refine s_addSigned (s := s) (a := a) (b := b) (m := j - i + 1) (hE.kept B1.1) (by omega) (by omega) (by omega) (by omega) (by omega) hA (vW_T0 _) B1.2.2.2.2.2.1 (fun ν2 f2 g2 => ?_)
  have B2 := B1.q hno (by omega) f2 g2
  refine s_addSigned (s := s) (a := a) (b := b) (m := j - i + 1) (hE.kept B2.1) (by omega) (by omega) (by omega) (by omega) (by omega) (hA.keptQ f2) v1 g2 (fun ν3 f3 g3 => ?_)
  have B3 := B2.q hno (by omega) f3 g3
  rw [hT2] at B3
  have e8 : ν3 33 8 = α 77 w := (hE.kept B3.1).2.2.2.2.2.1.1
  rw [e8]
  refine s_isSign (hE.kept B3.1).2.2.2.2.1 (by omega) (by omega) (fun r3 hr3 => ⟨fun z3 => k180 ν3 ?_, fun z3 => ?_⟩)
  · rw [← hT3, t1, mgi_0 ((bit0 hr3).mp z3)]
    exact B3
  · have hI1 := B3.2.2.1
    rw [eM] at hI1
    refine (ih (D' + 7) (1 - s) (i + 1) j (α 77 w - b) (α 77 w - a) (dp + 1) ν3 _ (by omega) (hE.kept B3.1) B3.2.1 hI1 hs' (by omega) (by omega) (by omega) (by omega) (by omega) (by omega)).1 (by omega) (fun rr ν4 hp4 => ?_)
    rw [← eM] at hp4
    obtain ⟨B4, m4, R4⟩ := B3.call hno hp4
    have A4 := R4.hd B4.2.2.1
    rw [vl_r hs'] at A4
    refine s_addTurned (hE.kept B4.1).2.2.2.2.2.2 (by omega) R4.b (R4.ne hno (by omega)) (by omega) (v2.T (by omega)) (r1.T (by omega)) (fun y1 => ?_) B4.2.2.2.2.2.1 A4 (fun ν5 f5 g5 => k180 ν5 ?_)
    · have q1 := r1.2 y1
      omega
    · rw [← hT3, t1, mgi_1 ((bitne hr3).mp z3)]
      exact B4.q hno (by omega) f5 g5
theorem KC_noR (M : Nat) {D : Nat} {s i j a b dp : Int} (hS : StB μ) (hI : Inv (Orc α tl w t) M μ) (hs : s = 0 ∨ s = 1) (h0 : 0 ≤ i ∧ i ≤ 9) (h1 : -9 ≤ j ∧ j ≤ 9) (h2 : 0 ≤ a ∧ a ≤ 10) (h3 : 0 ≤ b ∧ b ≤ 10) (hn : ¬ (i ≤ j ∧ a < b)) (h : ∀ r ν, Pst (Orc α tl w t) M μ r ν s i j a b → P r ν) : CI G l (D + 1) mX8_rowOf [xr G 26, xi s, xi i, xi j, xi a, xi b, xi dp] μ P := by
  have e := h _ _ (Pst_no hI hS (by rw [vl_r hs]; exact RV_no _ hn))
  apply E_X8_rowOf
  exact ⟨by omega, by omega, fun _ => e, fun z => ⟨by omega, by omega, fun _ => e, fun z2 => absurd ⟨z, z2⟩ hn⟩⟩
theorem KC_noP (M : Nat) {D : Nat} {s i j a b dp : Int} (hS : StB μ) (hI : Inv (Orc α tl w t) M μ) (hs : s = 0 ∨ s = 1) (h0 : 0 ≤ i ∧ i ≤ 9) (h1 : -9 ≤ j ∧ j ≤ 9) (h2 : 0 ≤ a ∧ a ≤ 10) (h3 : 0 ≤ b ∧ b ≤ 10) (hn : ¬ (i ≤ j ∧ a < b)) (h : ∀ r ν, Pst (Orc α tl w t) M μ r ν (2 + s) i j a b → P r ν) : CI G l (D + 1) mX8_pieceOf [xr G 26, xi s, xi i, xi j, xi a, xi b, xi dp] μ P := by
  have e := h _ _ (Pst_no hI hS (by rw [vl_p hs]; exact PV_no _ hn))
  apply E_X8_pieceOf
  exact ⟨by omega, by omega, fun _ => e, fun z => ⟨by omega, by omega, fun _ => e, fun z2 => absurd ⟨z, z2⟩ hn⟩⟩
theorem KC_all (hD : wfD α) : ∀ M : Nat, cl_KC G l α tl w t M
  | 0 => by
    intro D s i j a b dp μ P hDp hE hS hI hs hi hj ha hb hd0 hd
    have ht := hE.2.2.2.2.1.2.1
    have hv := hE.2.2.2.2.2.1.2.1
    have hl := (hE.1.2 w hv.1 hv.2).1
    obtain ⟨D', rfl⟩ : ∃ D', D = D' + 6 := ⟨D - 6, by omega⟩
    refine ⟨fun hM h => KC_noR 0 hS hI hs hi (by omega) ha (by omega) (by omega) h, fun hM h => ?_⟩
    by_cases c : i ≤ j ∧ a < b
    · have e : i = j := by omega
      subst e
      exact KC_one 0 hE hS hI hs (by omega) (by omega) hb.2 (by omega) h
    · exact KC_noP 0 hS hI hs hi (by omega) ha (by omega) c h
  | M + 1 => by
    intro D s i j a b dp μ P hDp hE hS hI hs hi hj ha hb hd0 hd
    have ih := KC_all hD M
    have ht := hE.2.2.2.2.1.2.1
    have hv := hE.2.2.2.2.2.1.2.1
    have hl := (hE.1.2 w hv.1 hv.2).1
    obtain ⟨D', rfl⟩ : ∃ D', D = D' + 8 := ⟨D - 8, by omega⟩
    have hIM : Inv (Orc α tl w t) M μ := hI.le (by omega)
    have low := ih (D' + 8) s i j a b dp μ P (by omega) hE hS hIM hs hi hj ha hb hd0 (by omega)
    refine ⟨fun hM h => ?_, fun hM h => ?_⟩
    · by_cases c : i ≤ j ∧ a < b
      · by_cases c2 : 2 * (j - i) + 1 = (M + 1 : Nat)
        · exact KC_row hD M ih (by omega) hE hS hI hs (by omega) hj.2 (by omega) hb.2 (by omega) c2 h
        · exact low.1 (by omega) (fun r ν hp => h r ν (hp.up (by omega) hI))
      · exact KC_noR (M + 1) hS hI hs hi (by omega) ha (by omega) c h
    · by_cases c : i ≤ j ∧ a < b
      · by_cases c2 : 2 * (j - i) = (M + 1 : Nat)
        · exact KC_piece hD M ih (by omega) hE hS hI hs (by omega) hj.2 (by omega) hb.2 (by omega) c2 h
        · exact low.2 (by omega) (fun r ν hp => h r ν (hp.up (by omega) hI))
      · exact KC_noP (M + 1) hS hI hs hi (by omega) ha (by omega) c h
end SpecRec6
