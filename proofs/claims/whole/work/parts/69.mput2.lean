/-! the model: what is put in, both ways -/
section SpecMPut2
variable {G : xG} {l : Launch} {d : Nat} {μ ν α : xMem} {P : Int → xMem → Prop} {PV' : xMem → Prop} {tl w t : Int}
theorem s_times {a b : Int} (h0 : 0 ≤ a ∧ a ≤ 1000) (h1 : 0 ≤ b ∧ b ≤ 1000) (h : P (cap 1000 (a * b)) μ) : CI G l (d + 1) mX12_times [xi a, xi b] μ P := by
  have p1 := Int.mul_nonneg h0.1 h1.1
  have p2 : a * b ≤ 1000 * 1000 := Int.mul_le_mul h0.2 h1.2 h1.1 (by decide)
  apply E_X12_times
  unfold cap at h
  refine ⟨by omega, fun z => ?_, fun z => ?_⟩
  · rcases (show a * b < 1000 ∨ a * b = 1000 by omega) with c | c
    · rw [if_pos c] at h; exact h
    · rw [if_neg (by omega)] at h; rw [c]; exact h
  · rw [if_neg (by omega)] at h; exact h
/-- one place, both ways: 201 -/
theorem s_put201 {c y S rd f e p q s n x r v how m ah : Int} {R T : Tri} (hc : c = chr y) (hy : 20 ≤ y ∧ y ≤ 31) (hS : 0 ≤ S ∧ S ≤ 7) (hrd : 0 ≤ rd ∧ rd ≤ 7) (hr : 0 ≤ r ∧ r < 3960) (hx : 1 ≤ x ∧ x ≤ 8) (hv : 0 ≤ v ∧ v ≤ 1000) (hhow : how = 0 ∨ how = 1) (hm : 3 ≤ m ∧ m ≤ 9) (hR : HdX 95 96 97 99 μ r R) (hRv : vW (m - 2) R) (hRn : vN (m - 2) R) (hRz : R.1 ≠ 0) (hC : Cu μ T) (hT : vW m T) (hTn : vN m T)
    (h : ∀ ν, FmC μ ν → Cu ν (mg T (R.1 * v, 1 + R.2.1 + (if how = 0 then 2 else 1), nArd y S R.2.2 x (if how = 0 then 28 else 29) rd)) → K_X12_putIn_155 G l (d + 3) PV' c S rd f e p q s n x r (how + 1) ν) : K_X12_putIn_201 G l (d + 3) PV' c S rd f e p q s n x r how v μ := by
  obtain ⟨q1, q2, q3, q4⟩ := hRv.2 hRz
  have enm : nm R = R.2.2 := by unfold nm; rw [if_neg hRz]
  have ecs : cs R = R.2.1 := by unfold cs; rw [if_neg hRz]
  have hR0 := hRv.1
  have nb := hR.2.2
  rw [enm] at nb
  apply B_X12_putIn_201
  refine ⟨by omega, fun z => ?_, fun z => ?_⟩
  · refine s_mopen (fun m1 g1 f1 => s_say hc (by omega) g1 (by simp) (fun m2 g2 f2 => s_say (chr_word hS) (by omega) g2 (by simp) (fun m3 g3 f3 => s_say (s := 1) (by decide) (by omega) g3 (by simp) (fun m4 g4 f4 => s_sayRow hr q1 (by omega) (nb.kD (f1.tr (f2.tr (f3.tr f4))) (by decide) (by decide)) g4 (by simp; omega) (fun m5 g5 f5 => s_say (s := 2) (by decide) (by omega) g5 (by simp; omega) (fun m6 g6 f6 => s_say (chr_dig hx) (by omega) g6 (by simp; omega) (fun m7 g7 f7 => ?_)))))))
    have fD := f1.tr (f2.tr (f3.tr (f4.tr (f5.tr (f6.tr f7)))))
    have k268 : ∀ hw ch, ch = chr hw → hw = (if how = 0 then 28 else 29) → K_X12_putIn_268 G l (d + 3) PV' c S rd f e p q s n x r how v ch m7 := by
      intro hw ch hch hhw
      have hwb : hw = 28 ∨ hw = 29 := by rw [hhw]; split <;> omega
      apply B_X12_putIn_268
      refine s_say hch (by omega) g7 (by simp; omega) (fun m8 g8 f8 => s_say (chr_word hrd) (by omega) g8 (by simp; omega) (fun m9 g9 f9 => ⟨hr, ?_⟩))
      have fD9 := fD.tr (f8.tr f9)
      have hR9 := hR.kept fD9.c.n (by decide) (by decide) (by decide) (by decide)
      have wb : 0 ≤ cap 1000 R.1 ∧ cap 1000 R.1 ≤ 1000 := by unfold cap; split <;> omega
      rw [hR9.1]
      refine s_times wb hv ?_
      rw [hR9.2.1, ecs]
      have gN : Dm m9 (nArd y S R.2.2 x hw rd) := by simpa [nArd] using g9
      have vv : ∀ cc : Int, 0 ≤ cc → cc ≤ 2 → vW m (R.1 * v, 1 + R.2.1 + cc, nArd y S R.2.2 x hw rd) := by
        intro cc c0 c1
        refine ⟨Int.mul_nonneg hR0 hv.1, fun _ => ⟨okN_app (okN_cons (by omega) (okN_cons (by omega) (ok1 (by omega)))) (okN_app q1 (okN_cons (by omega) (okN_cons (by omega) (okN_cons (by omega) (ok1 (by omega)))))), ?_, by simp only; omega, by simp only; omega⟩⟩
        simp only [nArd]
        simp
        omega
      have nn : ∀ cc : Int, vN m (R.1 * v, 1 + R.2.1 + cc, nArd y S R.2.2 x hw rd) := by
        intro cc _
        have h1 := hRn hRz
        have h2 := val_wrap (m := m - 2) (y := y) (Or.inr hy.1) (show 12 ≤ 12 + S ∧ 12 + S ≤ 19 by omega) h1.2.1 h1.1 (by omega)
        have h3 := val_app h2 (val_cons (s := 2 + x) (Or.inl (by omega)) (val_2 (x := hw) (Or.inr (by omega)) (show 12 ≤ 12 + rd ∧ 12 + rd ≤ 19 by omega)) (by omega)) (by omega)
        rw [show m - 2 + 1 + 1 = m by omega] at h3
        have e : ([y, 12 + S, 1] ++ (R.2.2 ++ [2])) ++ (2 + x) :: [hw, 12 + rd] = nArd y S R.2.2 x hw rd := by
          unfold nArd
          simp
        rw [e] at h3
        exact h3
      have ecap : cap 1000 (cap 1000 (cap 1000 R.1 * v)) = cap 1000 (R.1 * v) := by
        rw [cap_cap]
        have := cap_mul (n := 1000) (a := R.1) (b := v) (by omega) hR0 hv.1
        rw [← this, show cap 1000 v = v by unfold cap; split <;> omega]
      have tb : 0 ≤ cap 1000 (cap 1000 R.1 * v) ∧ cap 1000 (cap 1000 R.1 * v) ≤ 1000 := by
        have := Int.mul_nonneg wb.1 hv.1
        unfold cap at *
        split <;> omega
      refine ⟨by omega, fun zh => ?_, fun zh => ?_⟩
      · rw [if_neg zh] at h hhw
        exact s_moffer (M := m) (m := m) (u := (R.1 * v, 1 + R.2.1 + 1, nArd y S R.2.2 x hw rd)) (by omega) (hC.kD fD9) hT (vv 1 (by omega) (by omega)) hTn (nn 1) (by omega) ecap (by omega) (fun _ => ⟨rfl, gN⟩) (fun m10 g10 f10 => h m10 (fD9.c.tr f10) (by rw [if_neg zh, ← hhw]; exact g10))
      · rw [if_pos zh] at h hhw
        exact s_moffer (M := m) (m := m) (u := (R.1 * v, 1 + R.2.1 + 2, nArd y S R.2.2 x hw rd)) (by omega) (hC.kD fD9) hT (vv 2 (by omega) (by omega)) hTn (nn 2) (by omega) ecap (by omega) (fun _ => ⟨rfl, gN⟩) (fun m10 g10 f10 => h m10 (fD9.c.tr f10) (by rw [if_pos zh, ← hhw]; exact g10))
    exact ⟨by omega, fun zh => k268 29 109 (by decide) (by rw [if_neg zh]), fun zh => k268 28 108 (by decide) (by rw [if_pos zh])⟩
  · refine h μ FmC.rf ?_
    rw [mg_none (by rw [z, Int.mul_zero])]
    exact hC
end SpecMPut2
