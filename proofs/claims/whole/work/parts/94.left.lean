/-! left, nextLight -/
section Left
variable {G : xG} {l : Launch} {d : Nat} {μ ν α m y z : xMem} {P : Int → xMem → Prop} {PV' : xMem → Prop} {N : Int}
/-- the class's lists are what is left -/
def CL' (α y : xMem) (F : Int → Int → Prop) : Prop := ∀ c, 0 ≤ c → c < 16 → wl α y c ∧ ∀ w, Lx y c w ↔ F c w
/-- the model's table is what is left -/
def ML (z : xMem) (F : Int → Int → Prop) : Prop := ∀ c w, 0 ≤ c → c < 16 → 0 ≤ w → w < 120 → (z 119 (120 * c + w) = 0 ∨ z 119 (120 * c + w) = 1) ∧ (z 119 (120 * c + w) = 1 ↔ F c w)
theorem s_leftOf {c : Int} {F : Int → Int → Prop} (hW : gW α) (hC : CL' α y F) (hM : ML z F) (hc : 0 ≤ c ∧ c < 16) (e20 : z 74 20 = α 74 20) (h : P (y 60 c) z) : CI G l (d + 1) mX12_leftOf [xr G 74, xi c] z P := by
  have hb := hW.1.1
  obtain ⟨⟨a1, a2, a3⟩, a4⟩ := hC c hc.1 hc.2
  apply E_X12_leftOf
  have main : ∀ (n : Nat) (v j : Int), v + n = α 74 20 → 0 ≤ v → En (fun i => y 59 (c * 120 + i)) (y 60 c) v j → K_X12_leftOf_4 G l (d + 1) P c j v z := by
    intro n
    induction n with
    | zero =>
      intro v j hv v0 he
      have hj := En_end he (fun i i0 i1 => by have := (a3 i i0 i1).1; omega)
      apply B_X12_leftOf_4
      rw [e20]
      refine ⟨by omega, by omega, fun _ => ⟨by omega, by rw [hj]; exact h⟩, fun q => by omega⟩
    | succ n ih =>
      intro v j hv v0 he
      obtain ⟨b1, b2⟩ := hM c v hc.1 hc.2 v0 (by omega)
      have b0 : iR (z 119 (120 * c + v)) := by rcases b1 with q | q <;> rw [q] <;> decide
      apply B_X12_leftOf_4
      rw [e20]
      refine ⟨by omega, by omega, fun q => by omega, fun _ => ⟨by omega, b0, fun q => ?_, fun q => ?_⟩⟩
      · rw [Int.add_zero]
        refine ih (v + 1) j (by omega) (by omega) (En_n he (fun q2 => ?_))
        have := b2.mpr ((a4 v).mp q2)
        rw [q] at this
        exact absurd this (by decide)
      · have z1 : z 119 (120 * c + v) = 1 := by rcases b1 with q2 | q2; (exact absurd q2 q); exact q2
        exact ih (v + 1) (j + 1) (by omega) (by omega) (En_y a2 he ((a4 v).mpr (b2.mp z1))).2.2
  exact main (α 74 20).toNat 0 0 (by omega) (by omega) (En_0 a1.1 (fun i i0 i1 => (a3 i i0 i1).1.1))
theorem CL'.same {F : Int → Int → Prop} (h : CL' α y F) (e59 : z 59 = y 59) (e60 : z 60 = y 60) : CL' α z F := by
  unfold CL' wl Lx at *
  rw [e59, e60]
  exact h
/-- the class up to what is left -/
theorem s_xLeft {t : Int} (hI : INV N μ) (hN9 : 0 ≤ N ∧ N ≤ 600) (ht : iR t) (h : ∀ y, FrX Sx Tx μ y → gP y → StB y → y 27 6 ≤ μ 27 6 + 2000 → y 37 0 = 0 → CL' μ y (GF μ t (μ 113)) → PV' y) : CV G l (d + 59) mX6_recallLights [xr G 40, xr G 46, xi t] μ (fun m2 => CV G l (d + 59) mX10_settle [xr G 58] m2 PV') := by
  obtain ⟨hT, hD, hO, hW, hM, hS, hC, hL, hF, hU, hR, hG, hK, hP, hN⟩ := id hI
  have hX : XW μ := ⟨hW, hM, hS, hC, hD⟩
  have nb := hN.2.1
  refine s_recallLights ht hX hP hG hN.1 (by omega) hN.2.2 (fun m1 f1 g1 s1 b1 c1 l1 => ?_)
  refine s_settle (α := μ) (e := μ 113) hG hW (xG'.of f1 (by decide)) (MA.of f1 (by decide)) (fun x x0 x1 => by rw [f1.k 52 (by decide)]; exact (hG.2.2 x x0 x1).1) (fun x x0 x1 => (hG.2.2 x x0 x1).2) l1 (fun y f2 c2 => ?_)
  refine h y ((f1.tr f2).sub (by decide) (by decide)) (g1.kept (MA.of f2 (by decide)) f2 (by decide)) ?_ (by rw [f2.f 27 6 (by decide)]; omega) (by rw [f2.f 37 0 (by decide)]; exact c1) c2
  unfold StB at *
  rw [f2.k 28 (by decide), f2.f 27 6 (by decide)]
  exact s1
theorem op_left (hI : INV N μ) (hN9 : 0 ≤ N ∧ N ≤ 600) {c t : Int} (hc : iR c) (ht : iR t) : SIM G l (d + 60) mX11_left mX12_left [xi c, xi t] N μ := by
  obtain ⟨hT, hD, hO, hW, hM, hS, hC, hL, hF, hU, hR, hG, hK, hP, hN⟩ := id hI
  have hX : XW μ := ⟨hW, hM, hS, hC, hD⟩
  unfold SIM
  apply E_X11_left
  refine s_hasLight hG rfl hc (fun r g => ⟨fun z => ?_, fun z => ?_⟩)
  · have hlit := (bitne g).mp z
    refine s_xLeft hI hN9 ht (fun y fy gy sy by' y37 cy => ?_)
    have h60 := (cy c hlit.1 hlit.2.1).1.1
    refine ⟨⟨hlit.1, hlit.2.1⟩, by omega, ?_⟩
    have f2 : FrX [] [(74, 0)] y (st2 y 74 0 0) := FrX.st
    apply E_X12_left
    generalize hz : st2 y 74 0 0 = z0 at *
    have f02 := fy.tr f2
    refine s_isLight hG (f02.k 117 (by decide)) hc (fun r1 g1 => ⟨fun _ => ?_, fun q => absurd hlit ((bit0 g1).mp q)⟩)
    refine s_narrow (α := μ) (e := μ 113) hN9 ht hG hW (hX.kept f02 (by decide)) (hK.kept (MA.of f02 (by decide)) f02 (by decide)) (mG.of f02 (by decide)) (fun x x0 x1 => by rw [f02.k 113 (by decide)]) (fun x x0 x1 => (hG.2.2 x x0 x1).2) (fun z3 f3 k3 t3 => ?_)
    have f23 := f2.tr f3
    refine s_leftOf hW cy t3 ⟨hlit.1, hlit.2.1⟩ ?_ ⟨rfl, hI.q fy (f23.sub (by decide) (by decide)) gy sy by' y37 k3⟩
    rw [f3.f 74 20 (by decide), f02.f 74 20 (by decide)]
  · have hlit := (bit0 g).mp z
    apply E_X12_left
    refine s_isLight hG (st_f _ _ _ _ _ (by decide)) hc (fun r1 g1 => ⟨fun q => absurd ((bitne g1).mp q) hlit, fun _ => ⟨rfl, hI.thr⟩⟩)
/-- the next one -/
def Nx (α y : xMem) (e : Int → Int) (c : Int) : Prop := lit α c ∧ y 60 c = 1 ∧ ∃ k, 0 ≤ k ∧ k < α 89 c ∧ e (cel α c k) = 0
theorem CL'.lit {t c : Int} {e : Int → Int} (h : CL' α y (GF α t e)) (hc : 0 ≤ c ∧ c < 16) (h1 : 0 < y 60 c) : lit α c := (GF_L0 (((h c hc.1 hc.2).2 _).mp ⟨0, Int.le_refl _, h1, rfl⟩)).1
theorem s_isNext {c t : Int} {e0 e : Int → Int} (hG : gG α) (hx : xG' α z) (hC : CL' α y (GF α t e0)) (e60 : z 60 = y 60) (h52 : ∀ x, 0 ≤ x → x < 81 → z 52 x = e x) (he : eOk e) (hc : 0 ≤ c ∧ c < 16) (h : ∀ r, bit r (Nx α y e c) → P r z) : CI G l (d + 2) mX10_isNext [xr G 58, xi c] z P := by
  have b60 := (hC c hc.1 hc.2).1.1
  apply E_X10_isNext
  rw [e60]
  refine ⟨hc, by omega, fun q => ?_, fun q => h 0 (Or.inr ⟨rfl, fun n => q n.2.1⟩)⟩
  have hlit := hC.lit hc (by omega)
  have e49 : z 49 c = α 89 c := by rw [hx.2.2.1, hG.2.1.1 c hc.1 hc.2, if_pos hlit.2.2]
  have lb := (hG.1.2.1 c hlit).2.2.1
  have main : ∀ (n : Nat) (v : Int), v + n = α 89 c → 0 ≤ v → (∀ k, 0 ≤ k → k < v → e (cel α c k) ≠ 0) → K_X10_isNext_14 G l (d + 2) P c v z := by
    intro n
    induction n with
    | zero =>
      intro v hv v0 hi
      apply B_X10_isNext_14
      rw [e49]
      exact ⟨hc, by omega, by omega, fun _ => h 0 (Or.inr ⟨rfl, fun ⟨_, _, k, k0, k1, k2⟩ => hi k k0 (by omega) k2⟩), fun q => by omega⟩
    | succ n ih =>
      intro v hv v0 hi
      have hb := cel_b hG.1 hlit v0 (show v < α 89 c by omega)
      have eb := he _ hb.1 hb.2
      apply B_X10_isNext_14
      rw [e49]
      refine ⟨hc, by omega, by omega, fun q => by omega, fun _ => s_cellOf hG hx hlit v0 (by omega) ?_⟩
      rw [h52 _ hb.1 hb.2]
      refine ⟨by omega, by omega, fun q2 => ih (v + 1) (by omega) (by omega) (fun k k0 k1 => ?_), fun q2 => h 1 (Or.inl ⟨rfl, hlit, q, v, v0, by omega, q2⟩)⟩
      rcases (show k < v ∨ k = v by omega) with q3 | q3
      · exact hi k k0 q3
      · rw [q3]; exact q2
  exact main (α 89 c).toNat 0 (by omega) (by omega) (fun k k0 k1 => by omega)
def fst' (α y : xMem) (e : Int → Int) (r : Int) : Prop := (r = -1 ∧ ∀ c, ¬ Nx α y e c) ∨ (Nx α y e r ∧ ∀ c, c < r → ¬ Nx α y e c)
theorem s_nextOne {t : Int} {e0 e : Int → Int} (hG : gG α) (hx : xG' α z) (hC : CL' α y (GF α t e0)) (e60 : z 60 = y 60) (h52 : ∀ x, 0 ≤ x → x < 81 → z 52 x = e x) (he : eOk e) (h : ∀ r, fst' α y e r → P r z) : CI G l (d + 3) mX10_nextOne [xr G 58] z P := by
  apply E_X10_nextOne
  have main : ∀ (n : Nat) (v : Int), v + n = 16 → 0 ≤ v → (∀ c, c < v → ¬ Nx α y e c) → K_X10_nextOne_2 G l (d + 3) P v z := by
    intro n
    induction n with
    | zero =>
      intro v hv v0 hi
      apply B_X10_nextOne_2
      exact ⟨by omega, fun _ => h (-1) (Or.inl ⟨rfl, fun c q => hi c (by have := q.1.2.1; omega) q⟩), fun q => by omega⟩
    | succ n ih =>
      intro v hv v0 hi
      apply B_X10_nextOne_2
      refine ⟨by omega, fun q => by omega, fun _ => s_isNext hG hx hC e60 h52 he ⟨v0, by omega⟩ (fun r g => ⟨fun q => ih (v + 1) (by omega) (by omega) (fun c hc => ?_), fun q => h v (Or.inr ⟨(bitne g).mp q, hi⟩)⟩)⟩
      rcases (show c < v ∨ c = v by omega) with q2 | q2
      · exact hi c q2
      · rw [q2]; exact (bit0 g).mp q
  exact main 16 0 (by omega) (by omega) (fun c hc q => by have := q.1.1; omega)
theorem s_isFull2 {c : Int} {e : Int → Int} (hG : gG α) (hx : mG α z) (h113 : ∀ x, 0 ≤ x → x < 81 → z 113 x = e x) (he : eOk e) (hlit : lit α c) (h : ∀ r, bit r (∀ k, 0 ≤ k → k < α 89 c → e (cel α c k) ≠ 0) → P r z) : CI G l (d + 2) mX12_isFull [xr G 74, xi c] z P := by
  have e89 : z 89 = α 89 := hx.2.2.2.2.2.2.k 89 (by decide) (by decide)
  have lb := (hG.1.2.1 c hlit).2.2.1
  have c0 := hlit.1
  have c1 := hlit.2.1
  apply E_X12_isFull
  have main : ∀ (n : Nat) (v : Int), v + n = α 89 c → 0 ≤ v → (∀ k, 0 ≤ k → k < v → e (cel α c k) ≠ 0) → K_X12_isFull_2 G l (d + 2) P c v z := by
    intro n
    induction n with
    | zero =>
      intro v hv v0 hi
      apply B_X12_isFull_2
      rw [e89]
      exact ⟨by omega, by omega, by omega, fun _ => h 1 (Or.inl ⟨rfl, fun k k0 k1 => hi k k0 (by omega)⟩), fun q => by omega⟩
    | succ n ih =>
      intro v hv v0 hi
      have hb := cel_b hG.1 hlit v0 (show v < α 89 c by omega)
      have eb := he _ hb.1 hb.2
      apply B_X12_isFull_2
      rw [e89]
      refine ⟨by omega, by omega, by omega, fun q => by omega, fun _ => s_mCellOf hG hx hlit v0 (by omega) ?_⟩
      rw [h113 _ hb.1 hb.2]
      refine ⟨by omega, by omega, fun q2 => ih (v + 1) (by omega) (by omega) (fun k k0 k1 => ?_), fun q2 => h 0 (Or.inr ⟨rfl, fun q3 => q3 v v0 (by omega) q2⟩)⟩
      rcases (show k < v ∨ k = v by omega) with q3 | q3
      · exact hi k k0 q3
      · rw [q3]; exact q2
  exact main (α 89 c).toNat 0 (by omega) (by omega) (fun k k0 k1 => by omega)
theorem s_nextOf {t : Int} {e : Int → Int} (hN9 : 0 ≤ N ∧ N ≤ 600) (ht : iR t) (hG : gG α) (hW : gW α) (hX : XW z) (hK : gK N z) (hx : mG α z) (h113 : ∀ x, 0 ≤ x → x < 81 → z 113 x = e x) (he : eOk e) (hC : CL' α y (GF α t e))
    (h : ∀ r z', FrX (119 :: Sf) Tf z z' → gK N z' → ML z' (GF α t e) → fst' α y e r → P r z') : CI G l (d + 11) mX12_nextOf [xr G 74, xi t] z P := by
  apply E_X12_nextOf
  refine s_narrow (α := α) (e := e) hN9 ht hG hW hX hK hx h113 he (fun z3 f3 k3 t3 => ?_)
  have hx3 : mG α z3 := hx.kept f3 (by decide)
  have e20 : z3 74 20 = α 74 20 := hx3.2.2.2.2.2.2.2 20 (by decide) (by decide)
  have main : ∀ (n : Nat) (v : Int), v + n = 16 → 0 ≤ v → (∀ c, c < v → ¬ Nx α y e c) → K_X12_nextOf_7 G l (d + 11) P v z3 := by
    intro n
    induction n with
    | zero =>
      intro v hv v0 hi
      apply B_X12_nextOf_7
      exact ⟨by omega, fun _ => h (-1) z3 f3 k3 t3 (Or.inl ⟨rfl, fun c q => hi c (by have := q.1.2.1; omega) q⟩), fun q => by omega⟩
    | succ n ih =>
      intro v hv v0 hi
      have h01 := (hG.1.1 v v0 (by omega)).1
      have nx : ¬ Nx α y e v → K_X12_nextOf_7 G l (d + 11) P (v + 1) z3 := fun hq => ih (v + 1) (by omega) (by omega) (fun c hc => by
        rcases (show c < v ∨ c = v by omega) with q2 | q2
        · exact hi c q2
        · rw [q2]; exact hq)
      apply B_X12_nextOf_7
      rw [hx3.2.2.2.2.1]
      refine ⟨by omega, fun q => by omega, fun _ => ⟨by omega, by omega, fun q => nx (fun q2 => by have := q2.1.2.2; omega), fun q => s_leftOf hW hC t3 ⟨v0, by omega⟩ e20 ⟨fun q2 => nx (fun q3 => q2 q3.2.1), fun q2 => ?_⟩⟩⟩
      have hlit : lit α v := ⟨v0, by omega, by omega⟩
      refine s_isFull2 hG hx3 (fun x x0 x1 => by rw [f3.k 113 (by decide)]; exact h113 x x0 x1) he hlit (fun r12 g12 => ⟨fun q3 => nx (fun ⟨_, _, k, k0, k1, k2⟩ => (bitne g12).mp q3 k k0 k1 k2), fun q3 => h v z3 f3 k3 t3 (Or.inr ⟨⟨hlit, q2, ?_⟩, hi⟩)⟩)
      have nf := (bit0 g12).mp q3
      rcases Classical.em (∃ k, 0 ≤ k ∧ k < α 89 v ∧ e (cel α v k) = 0) with q4 | q4
      · exact q4
      · exact absurd (fun k k0 k1 k2 => q4 ⟨k, k0, k1, k2⟩) nf
  exact main 16 0 (by omega) (by omega) (fun c hc q => by have := q.1.1; omega)
theorem fst_u {e : Int → Int} {r r' : Int} (h1 : fst' α y e r) (h2 : fst' α y e r') : r = r' := by
  rcases h1 with ⟨a, b⟩ | ⟨a, b⟩ <;> rcases h2 with ⟨c, f⟩ | ⟨c, f⟩
  · omega
  · exact absurd c (b _)
  · exact absurd a (f _)
  · rcases (show r < r' ∨ r = r' ∨ r' < r by omega) with q | q | q
    · exact absurd a (f r q)
    · exact q
    · exact absurd c (b r' q)
theorem op_nextLight (hI : INV N μ) (hN9 : 0 ≤ N ∧ N ≤ 600) {t : Int} (ht : iR t) : SIM G l (d + 60) mX11_nextLight mX12_nextLight [xi t] N μ := by
  obtain ⟨hT, hD, hO, hW, hM, hS, hC, hL, hF, hU, hR, hG, hK, hP, hN⟩ := id hI
  have hX : XW μ := ⟨hW, hM, hS, hC, hD⟩
  unfold SIM
  apply E_X11_nextLight
  refine s_xLeft hI hN9 ht (fun y fy gy sy by' y37 cy => ?_)
  refine s_nextOne (α := μ) (e := μ 113) hG (xG'.of fy (by decide)) cy rfl (fun x x0 x1 => by rw [fy.k 52 (by decide)]; exact (hG.2.2 x x0 x1).1) (fun x x0 x1 => (hG.2.2 x x0 x1).2) (fun r hr => ?_)
  have f2 : FrX [] [(74, 0)] y (st2 y 74 0 0) := FrX.st
  apply E_X12_nextLight
  generalize hz : st2 y 74 0 0 = z0 at *
  have f02 := fy.tr f2
  refine s_nextOf (α := μ) (e := μ 113) hN9 ht hG hW (hX.kept f02 (by decide)) (hK.kept (MA.of f02 (by decide)) f02 (by decide)) (mG.of f02 (by decide)) (fun x x0 x1 => by rw [f02.k 113 (by decide)]) (fun x x0 x1 => (hG.2.2 x x0 x1).2) cy (fun r' z3 f3 k3 t3 hr' => ⟨fst_u hr hr', hI.q fy ((f2.tr f3).sub (by decide) (by decide)) gy sy by' y37 k3⟩)
end Left
