/-! best -/
section Best
variable {G : xG} {l : Launch} {d : Nat} {μ ν α m : xMem} {P : Int → xMem → Prop} {PV' : xMem → Prop} {N : Int}
theorem xChr_e (s : Int) : xChr s = chr s := rfl
theorem s_writeName {L : List Int} (hN : okN L) (hl : L.length ≤ 36) (hm : Nm μ 7920 L) (h : ∀ m', FrX [2] [] μ m' → (∀ i : Int, 0 ≤ i → i < L.length → m' 2 i = chr (L.getD i.toNat 0)) → P L.length m') : CI G l (d + 5) mX8_writeName [xr G 26, xr G 2] μ P := by
  apply E_X8_writeName
  have main : ∀ (n k : Nat) (x : xMem), k + n = L.length → FrX [2] [] μ x → (∀ i : Int, 0 ≤ i → i < k → x 2 i = chr (L.getD i.toNat 0)) → K_X8_writeName_2 G l (d + 5) P (k : Int) x := by
    intro n
    induction n with
    | zero =>
      intro k x hk fx hx
      have e : k = L.length := by omega
      subst e
      have hm' : Nm x 7920 L := by unfold Nm at *; rw [fx.k 31 (by decide)]; exact hm
      apply B_X8_writeName_2
      refine ⟨by omega, fun _ => h x fx hx, fun q => s_symbolAt hN (by omega) (by omega) hm' ⟨fun _ => h x fx hx, fun q2 => absurd ?_ q2⟩⟩
      rw [show ((L.length : Nat) : Int).toNat = L.length by omega]
      exact (getD_pos hN).mpr (Nat.le_refl _)
    | succ n ih =>
      intro k x hk fx hx
      have hm' : Nm x 7920 L := by unfold Nm at *; rw [fx.k 31 (by decide)]; exact hm
      have hb : 1 ≤ L.getD k 0 ∧ L.getD k 0 ≤ 31 := by
        have h1 : k < L.length := by omega
        have := hN (L[k]) (List.getElem_mem h1)
        rw [List.getD_eq_getElem?_getD, List.getElem?_eq_getElem h1]
        simpa using this
      apply B_X8_writeName_2
      refine ⟨by omega, fun q => by omega, fun q => s_symbolAt hN (by omega) (by omega) hm' ?_⟩
      rw [show ((k : Nat) : Int).toNat = k by omega]
      refine ⟨fun q2 => by omega, fun _ => s_symbolAt hN (by omega) (by omega) hm' ?_⟩
      rw [show ((k : Nat) : Int).toNat = k by omega]
      refine ⟨by omega, by omega, ?_⟩
      have := ih (k + 1) (st2 x 2 (k : Int) (xChr (L.getD k 0))) (by omega) ((fx.tr FrX.sa).sub (by decide) (by decide)) (fun i i0 i1 => ?_)
      · rw [show ((k + 1 : Nat) : Int) = (k : Int) + 1 by omega] at this
        exact this
      · rw [st_i]
        by_cases q3 : i = (k : Int)
        · rw [if_pos q3, q3, show ((k : Nat) : Int).toNat = k by omega]; rfl
        · rw [if_neg q3]; exact hx i i0 (by omega)
  exact main L.length 0 μ (by omega) FrX.rf (fun i i0 i1 => by omega)
theorem s_bestCopy {L : List Int} {r : Int} (hN : okN L) (hl : L.length ≤ 36) (e48 : m 74 48 = L.length) (e47 : m 74 47 = r) (hr : iR r) (h105 : ∀ k : Nat, k < L.length → m 105 k = chr (L.getD k 0)) (h : ∀ m', FrX [107] [] m m' → (∀ i : Int, 0 ≤ i → i < L.length → m' 107 i = chr (L.getD i.toNat 0)) → P r m') : K_X12_best_47 G l (d + 1) P 0 m := by
  have main : ∀ (n k : Nat) (x : xMem), k + n = L.length → FrX [107] [] m x → (∀ i : Int, 0 ≤ i → i < k → x 107 i = chr (L.getD i.toNat 0)) → K_X12_best_47 G l (d + 1) P (k : Int) x := by
    intro n
    induction n with
    | zero =>
      intro k x hk fx hx
      have e : k = L.length := by omega
      subst e
      apply B_X12_best_47
      rw [fx.f 74 48 (by decide), fx.f 74 47 (by decide), e48, e47]
      exact ⟨by omega, by omega, fun _ => ⟨hr, h x fx hx⟩, fun q => by omega⟩
    | succ n ih =>
      intro k x hk fx hx
      have hb : 1 ≤ L.getD k 0 ∧ L.getD k 0 ≤ 31 := by
        have h1 : k < L.length := by omega
        have := hN (L[k]) (List.getElem_mem h1)
        rw [List.getD_eq_getElem?_getD, List.getElem?_eq_getElem h1]
        simpa using this
      have cb := chr_b (a := L.getD k 0) (by omega)
      apply B_X12_best_47
      rw [fx.f 74 48 (by decide), e48, fx.k 105 (by decide), h105 k (by omega), j8_id (by omega)]
      refine ⟨by omega, by omega, fun q => by omega, fun _ => ⟨by omega, ?_⟩⟩
      have := ih (k + 1) (st2 x 107 (k : Int) (chr (L.getD k 0))) (by omega) ((fx.tr FrX.sa).sub (by decide) (by decide)) (fun i i0 i1 => ?_)
      · rw [show ((k + 1 : Nat) : Int) = (k : Int) + 1 by omega] at this
        exact this
      · rw [st_i]
        by_cases q3 : i = (k : Int)
        · rw [if_pos q3, q3, show ((k : Nat) : Int).toNat = k by omega]
        · rw [if_neg q3]; exact hx i i0 (by omega)
  exact main L.length 0 m (by omega) FrX.rf (fun i i0 i1 => by omega)
theorem op_best (hI : INV N μ) (hN9 : 0 ≤ N ∧ N ≤ 600) {c w t : Int} (hc : iR c) (hwr : iR w) (ht : iR t) : SIM G l (d + 60) mX11_best mX12_best [xi c, xi w, xi t] N μ := by
  obtain ⟨hT, hD, hO, hW, hM, hS, hC, hL, hF, hU, hR, hG, hK, hP, hN⟩ := id hI
  have hw := hW.1
  have hb := hw.1
  -- the model, asked
  have asked : ∀ (m : xMem) (Q : Int → xMem → Prop), MA μ m → (∀ ν, FrX [] [(74, 0), (74, 52)] m ν → (¬ ∃ tl, isTl μ c t tl ∧ ((0 ≤ w ∧ w < μ 74 20) ∧ μ 78 w ≤ t) ∧ μ 77 w = μ 89 c) → Q 0 ν) → (∀ tl, isTl μ c t tl → (0 ≤ w ∧ w < μ 74 20) → μ 78 w ≤ t → μ 77 w = μ 89 c → Q 1 (st2 (st2 m 74 0 0) 74 52 tl)) → CI G l (d + 59) mX12_isAsked [xr G 74, xi c, xi w, xi t] (st2 m 74 0 0) Q := by
    intro m Q hA h0 h1
    have f0 : FrX [] [(74, 0), (74, 52)] m (st2 m 74 0 0) := FrX.st.sub (by decide) (by decide)
    have hA0 := hA.tr (MA.of f0 (by decide))
    apply E_X12_isAsked
    refine s_isIn hc (by decide) (by decide) (fun r g => ⟨fun z => s_mTellingOf hC hA0 hc ht (fun r5 h5 => ?_), fun z => h0 _ f0 (fun ⟨tl, q, _⟩ => (bit0 g).mp z (by have := (tl_told hC q).1; omega))⟩)
    have f1 : FrX [] [(74, 0), (74, 52)] m (st2 (st2 m 74 0 0) 74 52 r5) := (FrX.st.tr FrX.st).sub (by decide) (by decide)
    have hA1 := hA.tr (MA.of f1 (by decide))
    have r5b : iR r5 := by
      have := hC.2.1
      rcases h5 with q | q
      · have := q.1; omega
      · have := q.1; omega
    refine ⟨r5b, fun z2 => h0 _ f1 (fun ⟨tl, q, _⟩ => ?_), fun z2 => s_mIsKnown hW hA1 hD hwr ht (fun r6 h6 => ⟨fun z3 => h0 _ f1 (fun ⟨tl, q, q2, _⟩ => (bit0 h6).mp z3 q2), fun z3 => ?_⟩)⟩
    · have := tlo_u h5 (Or.inr q)
      have := q.1
      omega
    · have q6 := (bitne h6).mp z3
      have q5 : isTl μ c t r5 := by
        rcases h5 with q | q
        · omega
        · exact q
      have lc := tl_told hC q5
      have lw := (hw.2 w q6.1.1 q6.1.2).1
      have cl := (hC.2.2.2.2.2.1 c lc.1.1 lc.1.2).2
      rw [hA1.k 77 (by decide) (by decide), hA1.k 89 (by decide) (by decide)]
      refine ⟨by omega, by omega, by omega, by omega, fun z4 => h0 _ f1 (fun ⟨tl, q, q2, q3⟩ => z4 q3), fun z4 => h1 r5 q5 q6.1 q6.2 z4⟩
  have fail : (¬ ∃ tl, isTl μ c t tl ∧ ((0 ≤ w ∧ w < μ 74 20) ∧ μ 78 w ≤ t) ∧ μ 77 w = μ 89 c) → CI G l (d + 60) mX12_best [xr G 74, xi c, xi w, xi t] μ (fun r' m' => -1 = r' ∧ INV (N + 1) m') := by
    intro hz
    apply E_X12_best
    refine asked μ _ MA.rf (fun ν hf _ => ⟨fun z => absurd rfl z, fun _ => ⟨rfl, hI.sc hf (by decide) (by decide)⟩⟩) (fun tl q1 q2 q3 q4 => absurd ⟨tl, q1, ⟨q2, q3⟩, q4⟩ hz)
  unfold SIM
  apply E_X11_best
  apply E_X11_takeClue
  refine s_tellingOf hC ⟨rfl, rfl, rfl, rfl, rfl, rfl⟩ hc ht (fun tl htl => ⟨fun z => ⟨fun y => absurd rfl y, fun _ => fail (fun ⟨tl', q, _⟩ => ?_)⟩, fun z => s_isKnown hW rfl rfl hD hwr ht (fun r5 h5 => ⟨fun z2 => ⟨fun y => absurd rfl y, fun _ => fail (fun ⟨tl', q, q2, _⟩ => (bit0 h5).mp z2 q2)⟩, fun z2 => ?_⟩)⟩)
  · have := tlo_u htl (Or.inr q)
    have := q.1
    omega
  · have q5 : isTl μ c t tl := by
      rcases htl with q | q
      · exact absurd q.1 z
      · exact q
    have q6 := (bitne h5).mp z2
    have lc := tl_told hC q5
    have lw := (hw.2 w q6.1.1 q6.1.2).1
    obtain ⟨cl1, cl2⟩ := hC.2.2.2.2.2.1 c lc.1.1 lc.1.2
    have rw1 := (hW.2.2.1.2 w q6.1.1 q6.1.2).1
    rw [rw1, cl1]
    refine ⟨by omega, by omega, by omega, by omega, fun z4 => ?_, fun z4 => ⟨fun y => absurd rfl y, fun _ => fail (fun ⟨tl', _, _, q⟩ => z4 q)⟩⟩
    refine s_xTake (S := []) (T := []) hW hM hS hC FrX.rf (by decide) hN.2.2 q5.1 ht (fun m1 f1 e0 sh => ⟨fun _ => ?_, fun y => absurd y (by decide)⟩)
    have hA1 : MA μ m1 := MA.of f1 (by decide)
    have rW : rlW μ m1 := by
      have := hW.2.2.1
      unfold rlW at *
      rw [f1.f 4 2 (by decide), f1.k 14 (by decide), f1.k 13 (by decide)]
      exact this
    have rM : rlM μ m1 := by
      have := hM.2.1
      unfold rlM at *
      rw [f1.f 7 2 (by decide), f1.k 15 (by decide), f1.k 16 (by decide), f1.k 17 (by decide)]
      exact this
    have st1 : StB m1 := by
      have := hN.1
      unfold StB at *
      rw [f1.f 27 6 (by decide), f1.k 28 (by decide)]
      exact this
    have e276 : m1 27 6 = μ 27 6 := f1.f 27 6 (by decide)
    have nb := hN.2.1
    have cl4 := (hC.2.2.2.1 tl q5.1.1 q5.1.2).2.2.2.2.2.2.1
    have hv8 := wh_v (α := μ) (tl := tl) (t := t) (w := w) hw cl4.1 q6.1
    refine s_readBy (α := μ) (tl := tl) (t := t) hw hW.2.1 rW hM.1 rM sh q6.1 (by omega) (Or.inr rfl) st1 (by omega) (fun m2 fB st2' e6 e7 e8 hd2 => ?_)
    have f2 := fB.x
    have er : m2 29 7920 = cap 1000 (wh μ tl w t).1 := by rw [hd2.1, e7]; rfl
    have hd3 : (wh μ tl w t).1 ≠ 0 → m2 30 7920 = (wh μ tl w t).2.1 ∧ Nm m2 7920 (wh μ tl w t).2.2 := (hd2.2.2 (by rw [e8]; decide)).2
    have c0 : cap 1000 (wh μ tl w t).1 = 0 ↔ (wh μ tl w t).1 = 0 := by
      have := hv8.1
      unfold cap
      split <;> omega
    rw [er]
    have fX := f1.tr f2
    -- the model, behind what the class did
    have mdl : ∀ (x : xMem) (Q : Int → xMem → Prop), FrX [2] [(0, 4)] m2 x → (∀ m8 m4, FrX [] [(74, 0), (74, 52)] x m4 → ∀ m5, FrX [90, 91] [(74, 26), (74, 27), (74, 56)] m4 m5 → gK N m5 → FmR m5 m8 → Cu m8 (wh μ tl w t) → (cap 1000 (wh μ tl w t).1 ≠ 0 → K_X12_best_47 G l (d + 60) Q 0 (st2 m8 74 54 (m8 74 48))) ∧ (cap 1000 (wh μ tl w t).1 = 0 → Q 0 m8)) → CI G l (d + 60) mX12_best [xr G 74, xi c, xi w, xi t] x Q := by
      intro x Q fx hq
      have fXx := fX.tr fx
      have hA2 : MA μ x := MA.of fXx (by decide)
      apply E_X12_best
      refine asked x _ hA2 (fun ν hf hz => absurd ⟨tl, q5, q6, z4⟩ hz) (fun tl' t1 t2 t3 t4 => ⟨fun _ => ?_, fun y => absurd y (by decide)⟩)
      have et : tl' = tl := isTl_u t1 q5
      subst et
      have f3 : FrX [] [(74, 0), (74, 52)] x (st2 (st2 x 74 0 0) 74 52 tl') := (FrX.st.tr FrX.st).sub (by decide) (by decide)
      have e52 : (st2 (st2 x 74 0 0) 74 52 tl') 74 52 = tl' := st_s _ _ _ _
      generalize st2 (st2 x 74 0 0) 74 52 tl' = m3 at *
      have g3 := fXx.tr f3
      have hA3 : MA μ m3 := MA.of g3 (by decide)
      refine s_knowI hN9 ht (hW.kept g3 (by decide)) (hM.kept g3 (by decide)) (hS.kept g3 (by decide)) (hD.kept g3 (by decide)) (hK.kept hA3 g3 (by decide)) (fun m4 f4 k4 kn e26 e27 => ?_)
      rw [f4.f 74 52 (by decide), e52]
      have g4 := g3.tr f4
      have hA4 : MA μ m4 := MA.of g4 (by decide)
      exact s_read (α := μ) hw hM.1 hA4 ((Kn_eq hA4).mp kn) (by have := q5.1; have := hC.2.1; omega) cl4 q6.1 (fun m5 f5 c5 => hq m5 m3 f3 m4 f4 k4 f5 c5)
    refine ⟨fun y => ?_, fun y => ?_⟩
    · have t0 : (wh μ tl w t).1 ≠ 0 := fun q => y (c0.mpr q)
      obtain ⟨o1, o2, o3, o4⟩ := hv8.2 t0
      obtain ⟨d1, d2⟩ := hd3 t0
      refine s_writeName o1 (by omega) d2 (fun m3 f3 h3 => ?_)
      apply E_X8_leastCost
      have ee : st2 m3 0 4 (((wh μ tl w t).2.2.length : Nat) : Int) 30 7920 = (wh μ tl w t).2.1 := by rw [st_n _ _ _ _ _ _ (by decide), f3.k 30 (by decide)]; exact d1
      rw [ee]
      refine ⟨by omega, ?_⟩
      have fx : FrX [2] [(0, 4)] m2 (st2 m3 0 4 (((wh μ tl w t).2.2.length : Nat) : Int)) := (f3.tr FrX.st).sub (by decide) (by decide)
      have x04 : st2 m3 0 4 (((wh μ tl w t).2.2.length : Nat) : Int) 0 4 = (((wh μ tl w t).2.2.length : Nat) : Int) := st_s _ _ _ _
      have x2 : ∀ i : Int, 0 ≤ i → i < (((wh μ tl w t).2.2.length : Nat) : Int) → st2 m3 0 4 (((wh μ tl w t).2.2.length : Nat) : Int) 2 i = chr ((wh μ tl w t).2.2.getD i.toNat 0) := fun i i0 i1 => by rw [st_n _ _ _ _ _ _ (by decide)]; exact h3 i i0 i1
      generalize st2 m3 0 4 (((wh μ tl w t).2.2.length : Nat) : Int) = x at *
      refine mdl x _ fx (fun m8 m4 f4 m5 f5 k5 f8 c8 => ⟨fun _ => ?_, fun q => absurd q y⟩)
      obtain ⟨u1, u2, u3, u4⟩ := c8
      have en : nm (wh μ tl w t) = (wh μ tl w t).2.2 := if_neg t0
      have ec : cs (wh μ tl w t) = (wh μ tl w t).2.1 := if_neg t0
      rw [en] at u3 u4
      rw [ec] at u2
      have f9 : FrX [] [(74, 54)] m8 (st2 m8 74 54 (m8 74 48)) := FrX.st
      have e54 : st2 m8 74 54 (m8 74 48) 74 54 = (((wh μ tl w t).2.2.length : Nat) : Int) := by rw [st_s]; exact u3
      generalize st2 m8 74 54 (m8 74 48) = m9 at *
      refine s_bestCopy o1 (by omega) (by rw [f9.f 74 48 (by decide)]; exact u3) (by rw [f9.f 74 47 (by decide)]; exact u2) (by omega) (fun k hk => by rw [f9.k 105 (by decide)]; exact u4 k hk) (fun m10 f10 h10 => ⟨rfl, ?_⟩)
      have f8x := f8.x
      have tailK := f8x.tr (f9.tr f10)
      have tail := f4.tr (f5.tr tailK)
      have tl2 := fx.tr tail
      have g := fX.tr tl2
      have hAg : MA μ m10 := MA.of g (by decide)
      refine ⟨hT.kept g (by decide), hD.kept g (by decide), ?_, hW.kept g (by decide), hM.kept g (by decide), hS.kept g (by decide), hC.kept g (by decide), hL.kept g (by decide), hF.kept g (by decide), hU.kept g (by decide), hR.kept g (by decide), hG.kept g (by decide), (k5.kept (MA.of tailK (by decide)) tailK (by decide)).le (by omega), hP.kept hAg g (by decide), ?_, ?_, ?_⟩
      · have z04 : m10 0 4 = (((wh μ tl w t).2.2.length : Nat) : Int) := by rw [tail.f 0 4 (by decide)]; exact x04
        have z54 : m10 74 54 = (((wh μ tl w t).2.2.length : Nat) : Int) := by rw [f10.f 74 54 (by decide)]; exact e54
        refine ⟨by omega, by omega, fun i i0 i1 => ?_⟩
        rw [z04] at i1
        rw [h10 i i0 i1, tail.k 2 (by decide), x2 i i0 i1]
        have h1 : i.toNat < (wh μ tl w t).2.2.length := by omega
        have hb1 : 1 ≤ (wh μ tl w t).2.2.getD i.toNat 0 ∧ (wh μ tl w t).2.2.getD i.toNat 0 ≤ 31 := by
          have := o1 ((wh μ tl w t).2.2[i.toNat]) (List.getElem_mem h1)
          rw [List.getD_eq_getElem?_getD, List.getElem?_eq_getElem h1]
          simpa using this
        have cb := chr_b (a := (wh μ tl w t).2.2.getD i.toNat 0) (by omega)
        exact ⟨rfl, by omega, by omega⟩
      · unfold StB at *
        rw [tl2.f 27 6 (by decide), tl2.k 28 (by decide)]
        exact st2'
      · rw [tl2.f 27 6 (by decide), e6, e276]; omega
      · rw [tl2.f 37 0 (by decide), f2.f 37 0 (by decide), e0]; exact hN.2.2
    · refine mdl m2 _ FrX.rf (fun m8 m4 f4 m5 f5 k5 f8 c8 => ⟨fun q => absurd y q, fun _ => ⟨rfl, ?_⟩⟩)
      have f8x := f8.x
      have tail := f4.tr (f5.tr f8x)
      have g := fX.tr tail
      have hAg : MA μ m8 := MA.of g (by decide)
      refine ⟨hT.kept g (by decide), hD.kept g (by decide), hO.kept g (by decide), hW.kept g (by decide), hM.kept g (by decide), hS.kept g (by decide), hC.kept g (by decide), hL.kept g (by decide), hF.kept g (by decide), hU.kept g (by decide), hR.kept g (by decide), hG.kept g (by decide), (k5.kept (MA.of f8x (by decide)) f8x (by decide)).le (by omega), hP.kept hAg g (by decide), ?_, ?_, ?_⟩
      · unfold StB at *
        rw [tail.f 27 6 (by decide), tail.k 28 (by decide)]
        exact st2'
      · rw [tail.f 27 6 (by decide), e6, e276]; omega
      · rw [tail.f 37 0 (by decide), f2.f 37 0 (by decide), e0]; exact hN.2.2
end Best
