/-! the model: makeAll -/
section SpecMAll
variable {G : xG} {l : Launch} {d : Nat} {μ ν α : xMem} {P : Int → xMem → Prop} {PV' : xMem → Prop} {tl w t : Int}
def TP (α : xMem) (tl w t : Int) (c : Int → Int → Int → Int → Int → Prop) (μ : xMem) : Prop := ∀ i j p q s, okM i j p q s → j < α 87 tl → q ≤ α 77 w → c i j p q s → HdX 92 93 94 98 μ (mp i j p q s) (PV (Orc α tl w t) s i j (sdA (α 77 w) s p q) (sdB (α 77 w) s p q))
def TR (α : xMem) (tl w t : Int) (c : Int → Int → Int → Int → Int → Prop) (μ : xMem) : Prop := ∀ i j p q s, okM i j p q s → j < α 87 tl → q ≤ α 77 w → c i j p q s → HdX 95 96 97 99 μ (mp i j p q s) (RV (Orc α tl w t) s i j (sdA (α 77 w) s p q) (sdB (α 77 w) s p q))
theorem FmX.s {k1 k2 k3 k4 : Nat} {x : Int} (h : FmX k1 k2 k3 k4 x μ ν) (h1 : 92 ≤ k1 ∧ k1 ≤ 99) (h2 : 92 ≤ k2 ∧ k2 ≤ 99) (h3 : 92 ≤ k3 ∧ k3 ≤ 99) (h4 : 92 ≤ k4 ∧ k4 ≤ 99) : FmS μ ν := fun k i a b => h k i (by omega) (by omega) (Or.inl (by omega)) (Or.inl (by omega)) (Or.inl (by omega)) (Or.inl (by omega))
theorem HdX.kP {x y : Int} {T : Tri} (h : HdX 92 93 94 98 μ y T) (hf : FmX 92 93 94 98 x μ ν) (hl : (nm T).length ≤ 40) (hne : y ≠ x) : HdX 92 93 94 98 ν y T :=
  ⟨by rw [hf 92 y (by omega) (by omega) (Or.inr hne) (by omega) (by omega) (by omega)]; exact h.1, by rw [hf 93 y (by omega) (by omega) (by omega) (Or.inr hne) (by omega) (by omega)]; exact h.2.1, by rw [hf 94 y (by omega) (by omega) (by omega) (by omega) (Or.inr hne) (by omega)]; exact h.2.2.1, fun k hk => by rw [hf 98 _ (by omega) (by omega) (by omega) (by omega) (by omega) (Or.inr (by omega))]; exact h.2.2.2 k hk⟩
theorem HdX.kR {x y : Int} {T : Tri} (h : HdX 95 96 97 99 μ y T) (hf : FmX 95 96 97 99 x μ ν) (hl : (nm T).length ≤ 40) (hne : y ≠ x) : HdX 95 96 97 99 ν y T :=
  ⟨by rw [hf 95 y (by omega) (by omega) (Or.inr hne) (by omega) (by omega) (by omega)]; exact h.1, by rw [hf 96 y (by omega) (by omega) (by omega) (Or.inr hne) (by omega) (by omega)]; exact h.2.1, by rw [hf 97 y (by omega) (by omega) (by omega) (by omega) (Or.inr hne) (by omega)]; exact h.2.2.1, fun k hk => by rw [hf 99 _ (by omega) (by omega) (by omega) (by omega) (by omega) (Or.inr (by omega))]; exact h.2.2.2 k hk⟩
theorem TR.kp {c : Int → Int → Int → Int → Int → Prop} {x : Int} (h : TR α tl w t c μ) (hf : FmX 92 93 94 98 x μ ν) : TR α tl w t c ν := by
  intro i j p q s h1 h2 h3 h4
  have h5 := h i j p q s h1 h2 h3 h4
  exact ⟨by rw [hf 95 _ (by decide) (by simp) (by simp) (by simp) (by simp) (by simp)]; exact h5.1, by rw [hf 96 _ (by decide) (by simp) (by simp) (by simp) (by simp) (by simp)]; exact h5.2.1, by rw [hf 97 _ (by decide) (by simp) (by simp) (by simp) (by simp) (by simp)]; exact h5.2.2.1, fun k hk => by rw [hf 99 _ (by decide) (by simp) (by simp) (by simp) (by simp) (by simp)]; exact h5.2.2.2 k hk⟩
theorem TP.kr {c : Int → Int → Int → Int → Int → Prop} {x : Int} (h : TP α tl w t c μ) (hf : FmX 95 96 97 99 x μ ν) : TP α tl w t c ν := by
  intro i j p q s h1 h2 h3 h4
  have h5 := h i j p q s h1 h2 h3 h4
  exact ⟨by rw [hf 92 _ (by decide) (by simp) (by simp) (by simp) (by simp) (by simp)]; exact h5.1, by rw [hf 93 _ (by decide) (by simp) (by simp) (by simp) (by simp) (by simp)]; exact h5.2.1, by rw [hf 94 _ (by decide) (by simp) (by simp) (by simp) (by simp) (by simp)]; exact h5.2.2.1, fun k hk => by rw [hf 98 _ (by decide) (by simp) (by simp) (by simp) (by simp) (by simp)]; exact h5.2.2.2 k hk⟩
theorem sd_b {L s p q : Int} (hp : 0 ≤ p ∧ p < q ∧ q ≤ L) : 0 ≤ sdA L s p q ∧ sdB L s p q ≤ L := by
  unfold sdA sdB; split <;> omega
theorem TP.step {c c' : Int → Int → Int → Int → Int → Prop} {i j p q s : Int} (hO : okO (Orc α tl w t)) (ht : α 87 tl ≤ 8) (h : TP α tl w t c μ) (hf : FmX 92 93 94 98 (mp i j p q s) μ ν) (hn : HdX 92 93 94 98 ν (mp i j p q s) (PV (Orc α tl w t) s i j (sdA (α 77 w) s p q) (sdB (α 77 w) s p q))) (ok : okM i j p q s) (hc : ∀ i' j' p' q' s', okM i' j' p' q' s' → c' i' j' p' q' s' → c i' j' p' q' s' ∨ (i' = i ∧ j' = j ∧ p' = p ∧ q' = q ∧ s' = s)) : TP α tl w t c' ν := by
  intro i' j' p' q' s' h1 h2 h3 h4
  by_cases e : mp i' j' p' q' s' = mp i j p q s
  · obtain ⟨rfl, rfl, rfl, rfl, rfl⟩ := mp_inj h1 ok e
    exact hn
  · rcases hc i' j' p' q' s' h1 h4 with z | ⟨rfl, rfl, rfl, rfl, rfl⟩
    · obtain ⟨b1, b2⟩ := sd_b (L := α 77 w) (s := s') (p := p') (q := q') ⟨h1.2.1.1, h1.2.1.2.1, h3⟩
      have hv := v_PV hO (s := s') (i := i') (j := j') h1.1.1 (by omega) b1 (show _ ≤ α 77 w from b2)
      have hm := nm_ok hv (by have := h1.1; omega)
      exact (h i' j' p' q' s' h1 h2 h3 z).kP hf (by omega) e
    · exact absurd rfl e
theorem TR.step {c c' : Int → Int → Int → Int → Int → Prop} {i j p q s : Int} (hO : okO (Orc α tl w t)) (ht : α 87 tl ≤ 8) (h : TR α tl w t c μ) (hf : FmX 95 96 97 99 (mp i j p q s) μ ν) (hn : HdX 95 96 97 99 ν (mp i j p q s) (RV (Orc α tl w t) s i j (sdA (α 77 w) s p q) (sdB (α 77 w) s p q))) (ok : okM i j p q s) (hc : ∀ i' j' p' q' s', okM i' j' p' q' s' → c' i' j' p' q' s' → c i' j' p' q' s' ∨ (i' = i ∧ j' = j ∧ p' = p ∧ q' = q ∧ s' = s)) : TR α tl w t c' ν := by
  intro i' j' p' q' s' h1 h2 h3 h4
  by_cases e : mp i' j' p' q' s' = mp i j p q s
  · obtain ⟨rfl, rfl, rfl, rfl, rfl⟩ := mp_inj h1 ok e
    exact hn
  · rcases hc i' j' p' q' s' h1 h4 with z | ⟨rfl, rfl, rfl, rfl, rfl⟩
    · obtain ⟨b1, b2⟩ := sd_b (L := α 77 w) (s := s') (p := p') (q := q') ⟨h1.2.1.1, h1.2.1.2.1, h3⟩
      have hv := v_RV hO (s := s') (i := i') (j := j') h1.1.1 (by omega) b1 (show _ ≤ α 77 w from b2)
      have hm := nm_ok hv (by have := h1.1; omega)
      exact (h i' j' p' q' s' h1 h2 h3 z).kR hf (by omega) e
    · exact absurd rfl e
def lv (W I : Int) : Int → Int → Int → Int → Int → Prop := fun i j _ _ _ => j - i < W ∨ (j - i = W ∧ i < I)
def cP' (W I p0 q0 s0 : Int) : Int → Int → Int → Int → Int → Prop := fun i j p q s => (j - i < W ∨ (j - i = W ∧ i < I)) ∨ (i = I ∧ j = I + W ∧ (p < p0 ∨ (p = p0 ∧ (q < q0 ∨ (q = q0 ∧ s < s0)))))
theorem TP.sub {c c' : Int → Int → Int → Int → Int → Prop} (h : TP α tl w t c μ) (hc : ∀ i j p q s, okM i j p q s → j < α 87 tl → q ≤ α 77 w → c' i j p q s → c i j p q s) : TP α tl w t c' μ := fun i j p q s h1 h2 h3 h4 => h i j p q s h1 h2 h3 (hc i j p q s h1 h2 h3 h4)
theorem TR.sub {c c' : Int → Int → Int → Int → Int → Prop} (h : TR α tl w t c μ) (hc : ∀ i j p q s, okM i j p q s → j < α 87 tl → q ≤ α 77 w → c' i j p q s → c i j p q s) : TR α tl w t c' μ := fun i j p q s h1 h2 h3 h4 => h i j p q s h1 h2 h3 (hc i j p q s h1 h2 h3 h4)
theorem s_makeAll (hw : wfW α) (hM : wfM α) (hR : MR α tl w t μ) (h : ∀ ν, FmS μ ν → TR α tl w t (fun _ _ _ _ _ => True) ν → PV' ν) : CV G l (d + 6) mX12_makeAll [xr G 74] μ PV' := by
  have hv := hR.2.2.2.2.2.2.1
  have hO := Orc_ok (tl := tl) (t := t) hw hv
  have ht := hR.2.2.2.1
  have hl := (hw.2 w hv.1 hv.2).1
  have e41 : ∀ ν, FmS μ ν → ν 74 41 = α 87 tl := fun ν hf => (hR.kept hf).2.2.1
  have e42 : ∀ ν, FmS μ ν → ν 74 42 = α 77 w := fun ν hf => (hR.kept hf).2.2.2.2.2.1
  generalize hn : α 87 tl = n at *
  generalize hL : α 77 w = L at *
  have main : ∀ (K : Nat) (W : Int) (ν : xMem), W + K = n → 0 ≤ W → FmS μ ν → TP α tl w t (lv W 0) ν → TR α tl w t (lv W 0) ν → K_X12_makeAll_2 G l (d + 6) PV' W ν := by
    intro K
    induction K with
    | zero =>
      intro W ν hW W0 hf hP hT
      apply B_X12_makeAll_2
      rw [e41 ν hf]
      refine ⟨by omega, by omega, fun _ => h ν hf (hT.sub (fun i j p q s o b1 _ _ => Or.inl (by have := o.1; omega))), fun z => by omega⟩
    | succ K ihK =>
      intro W ν hW W0 hf hP hT
      apply B_X12_makeAll_2
      rw [e41 ν hf]
      refine ⟨by omega, by omega, fun z => by omega, fun _ => ?_⟩
      have lev : ∀ (N : Nat) (I : Int) (ν : xMem), I + N + W = n → 0 ≤ I → FmS μ ν → TP α tl w t (lv W I) ν → TR α tl w t (lv W I) ν → K_X12_makeAll_12 G l (d + 6) PV' W I ν := by
        intro N
        induction N with
        | zero =>
          intro I ν hI I0 hf hP hT
          apply B_X12_makeAll_12
          rw [e41 ν hf]
          have sub : ∀ i j p q s, okM i j p q s → j < α 87 tl → q ≤ α 77 w → lv (W + 1) 0 i j p q s → lv W I i j p q s := by
            intro i j p q s o b1 _ z
            have := o.1
            unfold lv at *
            omega
          exact ⟨by omega, by omega, fun _ => ihK (W + 1) ν (by omega) (by omega) hf (hP.sub sub) (hT.sub sub), fun z => by omega⟩
        | succ N ihN =>
          intro I ν hI I0 hf hP hT
          apply B_X12_makeAll_12
          rw [e41 ν hf]
          refine ⟨by omega, by omega, fun z => by omega, fun _ => ?_⟩
          -- the rows
          have rl : ∀ (A : Nat) (p : Int) (ν : xMem), p + A = L → 0 ≤ p → FmS μ ν → TP α tl w t (lv W (I + 1)) ν → TR α tl w t (cP' W I p 0 0) ν → K_X12_makeAll_88 G l (d + 6) PV' W I p ν := by
            intro A
            induction A with
            | zero =>
              intro p ν hp p0 hf hP hT
              apply B_X12_makeAll_88
              rw [e42 ν hf]
              refine ⟨by omega, by omega, fun _ => ihN (I + 1) ν (by omega) (by omega) hf hP (hT.sub (fun i j p' q s o b1 b2 z => ?_)), fun z => by omega⟩
              have := o.1
              have := o.2.1
              unfold lv at z
              unfold cP'
              omega
            | succ A ihA =>
              intro p ν hp p0 hf hP hT
              apply B_X12_makeAll_88
              rw [e42 ν hf]
              refine ⟨by omega, by omega, fun z => by omega, fun _ => ?_⟩
              have ql : ∀ (B : Nat) (q : Int) (ν : xMem), q + B = L + 1 → p < q → FmS μ ν → TP α tl w t (lv W (I + 1)) ν → TR α tl w t (cP' W I p q 0) ν → K_X12_makeAll_101 G l (d + 6) PV' W I p q ν := by
                intro B
                induction B with
                | zero =>
                  intro q ν hq q0 hf hP hT
                  apply B_X12_makeAll_101
                  rw [e42 ν hf]
                  refine ⟨by omega, by omega, fun _ => ihA (p + 1) ν (by omega) (by omega) hf hP (hT.sub (fun i j p' q' s o b1 b2 z => ?_)), fun z => by omega⟩
                  have := o.2.1
                  unfold cP' at *
                  omega
                | succ B ihB =>
                  intro q ν hq q0 hf hP hT
                  apply B_X12_makeAll_101
                  rw [e42 ν hf]
                  refine ⟨by omega, by omega, fun z => by omega, fun _ => ?_⟩
                  have one : ∀ (s : Int) (ν : xMem) (Q : xMem → Prop), (s = 0 ∨ s = 1) → FmS μ ν → TP α tl w t (lv W (I + 1)) ν → TR α tl w t (cP' W I p q s) ν → (∀ ν', FmS μ ν' → TP α tl w t (lv W (I + 1)) ν' → TR α tl w t (cP' W I p q (s + 1)) ν' → Q ν') → CV G l (d + 5) mX12_makeRow [xr G 74, xi I, xi (I + W), xi p, xi q, xi s] ν Q := by
                    intro s ν Q hs hf hP hT hQ
                    have ok : okM I (I + W) p q s := ⟨by omega, by omega, hs⟩
                    refine s_makeRow hw (hR.kept hf) hs (by omega) (by omega) (fun k p' q' k0 k1 x1 x2 x3 => hP I k p' q' s ⟨by omega, by omega, hs⟩ (by omega) (by omega) (by unfold lv; omega)) (fun f p' q' k0 k1 x1 x2 x3 => hT f (I + W) p' q' s ⟨by omega, by omega, hs⟩ (by omega) (by omega) (by unfold cP'; omega)) (fun ν' f' g' => hQ ν' (hf.tr (f'.s (by decide) (by decide) (by decide) (by decide))) (hP.kr f') (hT.step hO (by omega) f' g' ok (fun i' j' p' q' s' o z => ?_)))
                    unfold cP' at *
                    omega
                  apply B_X12_makeAll_113
                  refine ⟨by decide, fun z => absurd z (by decide), fun _ => one 0 ν _ (Or.inl rfl) hf hP hT (fun ν1 f1 P1 T1 => ?_)⟩
                  apply B_X12_makeAll_113
                  refine ⟨by decide, fun z => absurd z (by decide), fun _ => one 1 ν1 _ (Or.inr rfl) f1 P1 T1 (fun ν2 f2 P2 T2 => ?_)⟩
                  apply B_X12_makeAll_113
                  refine ⟨by decide, fun _ => ihB (q + 1) ν2 (by omega) (by omega) f2 P2 (T2.sub (fun i j p' q' s o b1 b2 z => ?_)), fun z => absurd z (by decide)⟩
                  have := o.2.2
                  unfold cP' at *
                  omega
              exact ql (A + 1) (p + 1) ν (by omega) (by omega) hf hP (hT.sub (fun i j p' q' s o b1 b2 z => by have := o.2.1; have := o.2.2; unfold cP' at *; omega))
          -- the pieces
          have pl : ∀ (A : Nat) (p : Int) (ν : xMem), p + A = L → 0 ≤ p → FmS μ ν → TP α tl w t (cP' W I p 0 0) ν → TR α tl w t (lv W I) ν → K_X12_makeAll_24 G l (d + 6) PV' W I p ν := by
            intro A
            induction A with
            | zero =>
              intro p ν hp p0 hf hP hT
              apply B_X12_makeAll_24
              rw [e42 ν hf]
              refine ⟨by omega, by omega, fun _ => rl L.toNat 0 ν (by omega) (by omega) hf (hP.sub (fun i j p' q s o b1 b2 z => ?_)) (hT.sub (fun i j p' q s o b1 b2 z => ?_)), fun z => by omega⟩
              · have := o.1
                have := o.2.1
                unfold lv at z
                unfold cP'
                omega
              · have := o.2.1
                unfold cP' at z
                unfold lv
                omega
            | succ A ihA =>
              intro p ν hp p0 hf hP hT
              apply B_X12_makeAll_24
              rw [e42 ν hf]
              refine ⟨by omega, by omega, fun z => by omega, fun _ => ?_⟩
              have ql : ∀ (B : Nat) (q : Int) (ν : xMem), q + B = L + 1 → p < q → FmS μ ν → TP α tl w t (cP' W I p q 0) ν → TR α tl w t (lv W I) ν → K_X12_makeAll_37 G l (d + 6) PV' W I p q ν := by
                intro B
                induction B with
                | zero =>
                  intro q ν hq q0 hf hP hT
                  apply B_X12_makeAll_37
                  rw [e42 ν hf]
                  refine ⟨by omega, by omega, fun _ => ihA (p + 1) ν (by omega) (by omega) hf (hP.sub (fun i j p' q' s o b1 b2 z => ?_)) hT, fun z => by omega⟩
                  have := o.2.1
                  unfold cP' at *
                  omega
                | succ B ihB =>
                  intro q ν hq q0 hf hP hT
                  apply B_X12_makeAll_37
                  rw [e42 ν hf]
                  refine ⟨by omega, by omega, fun z => by omega, fun _ => ?_⟩
                  have one : ∀ (s : Int) (ν : xMem) (Q : xMem → Prop), (s = 0 ∨ s = 1) → FmS μ ν → TP α tl w t (cP' W I p q s) ν → TR α tl w t (lv W I) ν → (∀ ν', FmS μ ν' → TP α tl w t (cP' W I p q (s + 1)) ν' → TR α tl w t (lv W I) ν' → Q ν') → CV G l (d + 5) mX12_makePiece [xr G 74, xi I, xi (I + W), xi p, xi q, xi s] ν Q := by
                    intro s ν Q hs hf hP hT hQ
                    have ok : okM I (I + W) p q s := ⟨by omega, by omega, hs⟩
                    refine s_makePiece hw hM (hR.kept hf) hs (by omega) (by omega) (fun f e p' q' s' k0 k1 x1 x2 hs' x3 x4 x5 => hT f e p' q' s' ⟨by omega, by omega, hs'⟩ (by omega) (by omega) (by unfold lv; omega)) (fun ν' f' g' => hQ ν' (hf.tr (f'.s (by decide) (by decide) (by decide) (by decide))) (hP.step hO (by omega) f' g' ok (fun i' j' p' q' s' o z => ?_)) (hT.kp f'))
                    unfold cP' at *
                    omega
                  apply B_X12_makeAll_49
                  refine ⟨by decide, fun z => absurd z (by decide), fun _ => one 0 ν _ (Or.inl rfl) hf hP hT (fun ν1 f1 P1 T1 => ?_)⟩
                  apply B_X12_makeAll_49
                  refine ⟨by decide, fun z => absurd z (by decide), fun _ => one 1 ν1 _ (Or.inr rfl) f1 P1 T1 (fun ν2 f2 P2 T2 => ?_)⟩
                  apply B_X12_makeAll_49
                  refine ⟨by decide, fun _ => ihB (q + 1) ν2 (by omega) (by omega) f2 (P2.sub (fun i j p' q' s o b1 b2 z => ?_)) T2, fun z => absurd z (by decide)⟩
                  have := o.2.2
                  unfold cP' at *
                  omega
              exact ql (A + 1) (p + 1) ν (by omega) (by omega) hf (hP.sub (fun i j p' q' s o b1 b2 z => by have := o.2.1; have := o.2.2; unfold cP' at *; omega)) hT
          exact pl L.toNat 0 ν (by omega) (by omega) hf (hP.sub (fun i j p' q s o b1 b2 z => by have := o.2.1; unfold cP' at z; unfold lv; omega)) hT
      exact lev (n - W).toNat 0 ν (by omega) (by omega) hf hP hT
  apply E_X12_makeAll
  exact main n.toNat 0 μ (by omega) (by omega) FmS.rf (fun i j p q s o _ _ z => by have := o.1; unfold lv at z; omega) (fun i j p q s o _ _ z => by have := o.1; unfold lv at z; omega)
end SpecMAll
