/-! Reader: what stays while a clue is read; the plays without rows -/
section SpecRec1
variable {G : xG} {l : Launch} {d : Nat} {μ μ' α : xMem} {P : Int → xMem → Prop} {PV' : xMem → Prop} {tl w t : Int}
theorem Orc_ok (hw : wfW α) (hv : 0 ≤ w ∧ w < α 74 20) : okO (Orc α tl w t) := by
  have hl := (hw.2 w hv.1 hv.2).1
  have i0 : ∀ p : Prop, 0 ≤ ind p := fun p => by rcases ind_01 p with h | h <;> omega
  refine ⟨fun _ _ _ _ => i0 _, fun _ _ _ _ => cntN_nn _, fun kd s a b f e => ?_, fun _ _ => i0 _, hl.1, hl.2⟩
  show 0 ≤ (if kd = 0 then _ else if kd = 1 then _ else if kd = 2 then _ else _)
  split
  · exact i0 _
  · split
    · exact i0 _
    · split
      · exact i0 _
      · exact i0 _
/-- all that reading needs and never changes -/
def cl_Env (α : xMem) (tl w t : Int) (μ : xMem) : Prop := wfW α ∧ rlW α μ ∧ wfM α ∧ rlM α μ ∧ shW α tl t μ ∧ cl_Ans α w μ ∧ EnvM μ
/-- only the memo and the aim have changed -/
def FrR (μ μ' : xMem) : Prop := ∀ k i, (k < 28 ∨ 33 ≤ k) → k ≠ 39 → (k ≠ 27 ∨ i ≠ 5) → (k ≠ 33 ∨ i ≠ 10) → μ' k i = μ k i
theorem FrR.rf : FrR μ μ := fun _ _ _ _ _ _ => rfl
theorem FrR.tr {m1 m2 m3 : xMem} (h1 : FrR m1 m2) (h2 : FrR m2 m3) : FrR m1 m3 := fun k i a b c e => (h2 k i a b c e).trans (h1 k i a b c e)
theorem FrQ.r {q : Int} (h : FrQ q μ μ') : FrR μ μ' := fun k i a b c e => h k i (by omega) c (Or.inl (by omega)) (Or.inl (by omega)) (Or.inl (by omega))
theorem FrA.r (h : FrA μ μ') : FrR μ μ' := fun k i a b c e => h k i b e
theorem rlW.kept (h : rlW α μ) (hf : FrR μ μ') : rlW α μ' := by
  refine ⟨by rw [hf 4 _ (by decide) (by decide) (by simp) (by simp)]; exact h.1, fun w a b => ?_⟩
  obtain ⟨h1, h2⟩ := h.2 w a b
  exact ⟨by rw [hf 14 _ (by decide) (by decide) (by simp) (by simp)]; exact h1, fun i x y => by rw [hf 13 _ (by decide) (by decide) (by simp) (by simp)]; exact h2 i x y⟩
theorem rlM.kept (h : rlM α μ) (hf : FrR μ μ') : rlM α μ' := by
  obtain ⟨h1, h2, h3⟩ := h
  refine ⟨by rw [hf 7 _ (by decide) (by decide) (by simp) (by simp)]; exact h1, fun a n x1 x2 x3 x4 => ?_, fun k x y => ?_⟩
  · rw [hf 15 _ (by decide) (by decide) (by simp) (by simp)]
    exact h2 a n x1 x2 x3 x4
  · rw [hf 17 _ (by decide) (by decide) (by simp) (by simp), hf 16 _ (by decide) (by decide) (by simp) (by simp)]
    exact h3 k x y
theorem shW.kept (h : shW α tl t μ) (hf : FrR μ μ') : shW α tl t μ' := by
  obtain ⟨h1, h2, h3, h4, h5, h6, h7⟩ := h
  have e6 := hf 33 6 (by decide) (by decide) (by simp) (by simp)
  refine ⟨by rw [hf 33 5 (by decide) (by decide) (by simp) (by simp)]; exact h1, h2, fun p x y => ?_, fun p x => ?_, fun p k x y z => ?_, by rw [e6]; exact h6, fun k x y => by rw [e6]; exact h7 k x y⟩
  · rw [hf 34 _ (by decide) (by decide) (by simp) (by simp), hf 35 _ (by decide) (by decide) (by simp) (by simp)]
    exact h3 p x y
  · rw [hf 37 _ (by decide) (by decide) (by simp) (by simp)]
    exact h4 p x
  · rw [hf 36 _ (by decide) (by decide) (by simp) (by simp)]
    exact h5 p k x y z
theorem cl_Ans.kept (h : cl_Ans α w μ) (hf : FrR μ μ') : cl_Ans α w μ' := by
  obtain ⟨h1, h2, h3⟩ := h
  refine ⟨by rw [hf 33 8 (by decide) (by decide) (by simp) (by simp)]; exact h1, h2, fun s k x y z => ?_⟩
  rw [hf 38 _ (by decide) (by decide) (by simp) (by simp)]
  exact h3 s k x y z
theorem EnvM.kept (h : EnvM μ) (hf : FrR μ μ') : EnvM μ' := by
  unfold EnvM
  rw [hf 27 7 (by decide) (by decide) (by simp) (by simp), hf 27 8 (by decide) (by decide) (by simp) (by simp)]
  exact h
theorem cl_Env.kept (h : cl_Env α tl w t μ) (hf : FrR μ μ') : cl_Env α tl w t μ' := by
  obtain ⟨h1, h2, h3, h4, h5, h6, h7⟩ := h
  exact ⟨h1, h2.kept hf, h3, h4.kept hf, h5.kept hf, h6.kept hf, h7.kept hf⟩
theorem Aim.keptQ {F : Int → Int} {n q : Int} (h : Aim μ F n) (hf : FrQ q μ μ') : Aim μ' F n := by
  obtain ⟨h1, h2, h3⟩ := h
  refine ⟨by rw [hf 33 10 (by decide) (Or.inl (by decide)) (Or.inl (by decide)) (Or.inl (by decide)) (Or.inl (by decide))]; exact h1, h2, fun m x y => ?_⟩
  rw [hf 39 m (by decide) (Or.inl (by decide)) (Or.inl (by decide)) (Or.inl (by decide)) (Or.inl (by decide))]
  exact h3 m x y
theorem bitne {r : Int} {p : Prop} (h : bit r p) : r ≠ 0 ↔ p := by
  rcases h with ⟨a, b⟩ | ⟨a, b⟩
  · exact ⟨fun _ => b, fun _ => by omega⟩
  · exact ⟨fun z => absurd a z, fun z => absurd z b⟩
theorem bit0 {r : Int} {p : Prop} (h : bit r p) : r = 0 ↔ ¬ p := by
  rcases h with ⟨a, b⟩ | ⟨a, b⟩
  · exact ⟨fun z => by omega, fun z => absurd b z⟩
  · exact ⟨fun _ => b, fun _ => a⟩
theorem tgL_A {s a b : Int} : tgL (tgA s a b) = b - a := by show (b - a) - (b - b) = b - a; omega
/-- none is offered, nothing changes -/
theorem mg_none {T : Tri} {n c : Int} {N : List Int} (h : n = 0) : mg T (n, c, N) = T := mg_0 _ _ h
theorem s_addPlain {q s a b i : Int} (hE : cl_Env α tl w t μ) (hq : 0 ≤ q ∧ q < 7922) (hi : 0 ≤ i ∧ i < α 87 tl) (hA : Aim μ (tgF α w (tgA s a b)) (b - a)) (hH : Hd μ q T0)
    (h : ∀ μ', FrQ q μ μ' → Hd μ' q (mgL T0 [((Orc α tl w t).1 i 0 0 (tgA s a b), 2, [28, 12 + i]), ((Orc α tl w t).2.1 i 0 0 (tgA s a b), 1, [29, 12 + i])]) → PV' μ') : CV G l (d + 5) mX8_addPlain [xr G 26, xi q, xi i] μ PV' := by
  have ht := hE.2.2.2.2.1.2.1
  have oeq : (Orc α tl w t).1 i 0 0 (tgA s a b) = ind (fit α (cwd α tl i) 0 0 (tgF α w (tgA s a b)) (b - a)) := by
    show ind (fit α (cwd α tl i) 0 0 (tgF α w (tgA s a b)) (tgL (tgA s a b))) = _
    rw [tgL_A]
  have meq : (Orc α tl w t).2.1 i 0 0 (tgA s a b) = cntN α t (cwd α tl i) (fun v => fit α v 0 0 (tgF α w (tgA s a b)) (b - a)) (α 74 21).toNat := by
    show cntN α t (cwd α tl i) (fun v => fit α v 0 0 (tgF α w (tgA s a b)) (tgL (tgA s a b))) (α 74 21).toNat = _
    rw [tgL_A]
  rw [oeq, meq] at h
  have v1 : vT 36 (mg T0 (ind (fit α (cwd α tl i) 0 0 (tgF α w (tgA s a b)) (b - a)), 2, [28, 12 + i])) := by
    refine vW.T (m := 1) (vW_mg (vW_T0 _) ⟨?_, fun _ => ⟨okN_cons (by omega) (ok1 (by omega)), by simp, by simp only; omega, by simp only; omega⟩⟩) (by omega)
    show 0 ≤ ind _
    rcases ind_01 (fit α (cwd α tl i) 0 0 (tgF α w (tgA s a b)) (b - a)) with z | z <;> omega
  have two : ∀ ν, FrQ q μ ν → Hd ν q (mg T0 (ind (fit α (cwd α tl i) 0 0 (tgF α w (tgA s a b)) (b - a)), 2, [28, 12 + i])) → K_X8_addPlain_45 G l (d + 5) PV' q i ν := by
    intro ν f0 g0
    have hE' := hE.kept f0.r
    obtain ⟨h1, h2, h3, h4, h5, h6, h7⟩ := id hE'
    have hA' := hA.keptQ f0
    apply B_X8_addPlain_45
    have cb := cntN_le (α := α) (t := t) (a := cwd α tl i) (p := fun v => fit α v 0 0 (tgF α w (tgA s a b)) (b - a)) (α 74 21).toNat
    have cb0 := cntN_nn (α := α) (t := t) (a := cwd α tl i) (p := fun v => fit α v 0 0 (tgF α w (tgA s a b)) (b - a)) (α 74 21).toNat
    have hm1 := h3.1
    refine s_countMeant hA' h1 h2 h3 h4 h5 hi (by omega) (by omega) ⟨fun z => ?_, fun z => ?_⟩
    · have h9 := h ν f0
      rw [mgL_cons, mgL_cons, mgL_nil, mg_none (show cntN α t (cwd α tl i) (fun v => fit α v 0 0 (tgF α w (tgA s a b)) (b - a)) (α 74 21).toNat = 0 by omega)] at h9
      exact h9 g0
    · refine s_offer (u := (cntN α t (cwd α tl i) (fun v => fit α v 0 0 (tgF α w (tgA s a b)) (b - a)) (α 74 21).toNat, 1, [29, 12 + i])) hq h7.1 h7.2 v1 g0 (by omega) (by simp only; omega) rfl (by decide) (fun _ => ⟨rfl, by simp only; omega⟩) (fun m1 f1 g1 => ⟨fun _ => h m1 (f0.tr f1) g1, fun y => absurd rfl y⟩) (fun m1 f1 g1 g2 => ⟨fun y => absurd y (by decide), fun _ => ?_⟩)
      refine s_putWord g1 (by simp) (by omega) (by omega) (fun m2 g3 f2 => ?_)
      exact s_keep (u := (cntN α t (cwd α tl i) (fun v => fit α v 0 0 (tgF α w (tgA s a b)) (b - a)) (α 74 21).toNat, 1, [29, 12 + i])) hq v1 (by simp only; omega) ⟨by simp only; omega, by simp only; omega⟩ rfl g3 (g2.kept f2) (fun m3 f3 g4 => h m3 (f0.tr (f1.tr (f2.q.tr f3))) g4)
  obtain ⟨h1, h2, h3, h4, h5, h6, h7⟩ := id hE
  apply E_X8_addPlain
  refine s_isOwn hA h1 h2 h5 hi (by omega) (by omega) (fun r hr => ⟨fun r0 => two μ FrQ.rf ?_, fun r0 => ?_⟩)
  · rw [mg_none (ind_f ((bit0 hr).mp r0))]
    exact hH
  · rw [ind_t ((bitne hr).mp r0)] at two
    refine s_offer (u := ((1 : Int), 2, [28, 12 + i])) hq h7.1 h7.2 ((vW_T0 1).T (by decide)) hH (by omega) (by simp only; omega) rfl (by decide) (fun _ => ⟨rfl, by simp only; omega⟩) (fun m1 f1 g1 => ⟨fun _ => two m1 f1 g1, fun y => absurd rfl y⟩) (fun m1 f1 g1 g2 => ⟨fun y => absurd y (by decide), fun _ => ?_⟩)
    refine s_putWord g1 (by simp) (by omega) (by omega) (fun m2 g3 f2 => ?_)
    exact s_keep (u := ((1 : Int), 2, [28, 12 + i])) hq ((vW_T0 1).T (by decide)) (by simp only; omega) ⟨by simp only; omega, by simp only; omega⟩ rfl g3 (g2.kept f2) (fun m3 f3 g4 => two m3 (f1.tr (f2.q.tr f3)) g4)
end SpecRec1
