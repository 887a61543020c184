/-! the model: what is put in, all places -/
section SpecMPut3
variable {G : xG} {l : Launch} {d : Nat} {μ ν α : xMem} {P : Int → xMem → Prop} {PV' : xMem → Prop} {tl w t : Int}
theorem s_put155 {c y S rd f e p q s n x r m n' : Int} {F' : Int → Int} {R T : Tri} (hw : wfW α) (hM : wfM α) (hR : MR α tl w t μ) (hA : Aro μ F' n') (hc : c = chr y) (hy : 20 ≤ y ∧ y ≤ 31) (hS : 0 ≤ S ∧ S ≤ 7) (hrd : 0 ≤ rd ∧ rd < α 87 tl) (hr : 0 ≤ r ∧ r < 3960) (hx : 1 ≤ x ∧ x ≤ 8) (hm : 3 ≤ m ∧ m ≤ 9) (hX : HdX 95 96 97 99 μ r R) (hRv : vW (m - 2) R) (hRn : vN (m - 2) R) (hRz : R.1 ≠ 0) (hC : Cu μ T) (hT : vW m T) (hTn : vN m T)
    (h : ∀ ν, FmC μ ν → Cu ν (mg (mg T (R.1 * ind (fit α (cwd α tl rd) 0 0 F' n'), 1 + R.2.1 + 2, nArd y S R.2.2 x 28 rd)) (R.1 * cntN α t (cwd α tl rd) (fun v => fit α v 0 0 F' n') (α 74 21).toNat, 1 + R.2.1 + 1, nArd y S R.2.2 x 29 rd)) → K_X12_putIn_17 G l (d + 3) PV' c S rd f e p q s n (x + 1) ν)
    (hv1 : vW m (R.1 * ind (fit α (cwd α tl rd) 0 0 F' n'), 1 + R.2.1 + 2, nArd y S R.2.2 x 28 rd)) (hn1 : vN m (R.1 * ind (fit α (cwd α tl rd) 0 0 F' n'), 1 + R.2.1 + 2, nArd y S R.2.2 x 28 rd)) : K_X12_putIn_155 G l (d + 3) PV' c S rd f e p q s n x r 0 μ := by
  have ht := hR.2.2.2.1
  obtain ⟨q1, q2, q3⟩ := hR.2.2.2.2.1 rd hrd.1 hrd.2
  have hk := hM.1
  have cb1 := cntN_le (α := α) (t := t) (a := cwd α tl rd) (p := fun v => fit α v 0 0 F' n') (α 74 21).toNat
  have cb0 := cntN_nn (α := α) (t := t) (a := cwd α tl rd) (p := fun v => fit α v 0 0 F' n') (α 74 21).toNat
  have i01 := ind_01 (fit α (cwd α tl rd) 0 0 F' n')
  have second : ∀ ν, FmC μ ν → Cu ν (mg T (R.1 * ind (fit α (cwd α tl rd) 0 0 F' n'), 1 + R.2.1 + 2, nArd y S R.2.2 x 28 rd)) → K_X12_putIn_155 G l (d + 3) PV' c S rd f e p q s n x r (0 + 1) ν := by
    intro ν f1 g1
    have hR1 := hR.kept f1.s
    apply B_X12_putIn_155
    refine ⟨by decide, fun z => absurd z (by decide), fun _ => ⟨fun _ => ⟨by omega, ?_⟩, fun z => absurd z (by decide)⟩⟩
    rw [(hR1.2.2.2.2.1 rd hrd.1 hrd.2).1]
    refine s_meant hw hM hR1 (hA.c f1) ⟨q2, q3⟩ (by omega) (by omega) ?_
    refine s_put201 (R := R) (T := mg T (R.1 * ind (fit α (cwd α tl rd) 0 0 F' n'), 1 + R.2.1 + 2, nArd y S R.2.2 x 28 rd)) (m := m) (ah := 0) hc hy hS (by omega) hr hx (by omega) (Or.inr (by omega)) hm (hX.kept f1.n (by decide) (by decide) (by decide) (by decide)) hRv hRn hRz g1 (vW_mg hT hv1) (vN_mg hT.1 hv1.1 hTn hn1) (fun ν2 f2 g2 => ?_)
    apply B_X12_putIn_155
    refine ⟨by decide, fun _ => h ν2 (f1.tr f2) ?_, fun z => absurd z (by decide)⟩
    rw [if_neg (by decide), if_neg (by decide)] at g2
    exact g2
  have go : ∀ x', x' = ind (fit α (cwd α tl rd) 0 0 F' n') → K_X12_putIn_201 G l (d + 3) PV' c S rd f e p q s n x r 0 x' μ := by
    intro x' hx'
    refine s_put201 (R := R) (T := T) (m := m) (ah := 0) hc hy hS (by omega) hr hx (by omega) (Or.inl rfl) hm hX hRv hRn hRz hC hT hTn (fun ν2 f2 g2 => second ν2 f2 ?_)
    rw [if_pos rfl, if_pos rfl, hx'] at g2
    exact g2
  apply B_X12_putIn_155
  rw [q1]
  refine ⟨by decide, fun z => absurd z (by decide), fun _ => ⟨fun z => absurd rfl z, fun _ => ⟨by omega, s_isAround hw hR.1 hA ⟨q2, q3⟩ (by omega) (by omega) (fun r1 hr1 => ⟨fun z => go 0 (ind_f ((bit0 hr1).mp z)).symm, fun z => go 1 (ind_t ((bitne hr1).mp z)).symm⟩)⟩⟩⟩
end SpecMPut3
