/-! possible, possibleAt -/
section Poss2
variable {G : xG} {l : Launch} {d : Nat} {μ ν α m : xMem} {P : Int → xMem → Prop} {PV' : xMem → Prop} {N : Int}
def Sx : List Nat := [27, 28, 29, 30, 31, 32, 34, 35, 36, 37, 38, 39, 41, 42, 43, 44, 45, 59, 60, 61, 62, 73]
def Tx : List (Nat × Int) := [(33, 5), (33, 6), (33, 8), (33, 10), (58, 8), (58, 9)]
def Sm : List Nat := [90, 91, 92, 93, 94, 95, 96, 97, 98, 99, 100, 101, 102, 103, 104, 105, 106, 108, 119, 120, 121, 123, 129]
def Tm : List (Nat × Int) := [(74, 0), (74, 3), (74, 26), (74, 27), (74, 41), (74, 42), (74, 43), (74, 44), (74, 45), (74, 46), (74, 47), (74, 48), (74, 49), (74, 52), (74, 56)]
/-- all holds on after a question: the class's, then the model's -/
theorem INV.q {m1 m2 : xMem} (hI : INV N μ) (hx : FrX Sx Tx μ m1) (hm : FrX Sm Tm m1 m2) (hP1 : gP m1) (hSt : StB m1) (hb : m1 27 6 ≤ μ 27 6 + 2000) (h37 : m1 37 0 = 0) (hK2 : gK N m2) : INV (N + 1) m2 := by
  obtain ⟨hT, hD, hO, hW, hM, hS, hC, hL, hF, hU, hR, hG, hK, hP, hN⟩ := id hI
  have g := hx.tr hm
  have hA : MA m1 m2 := MA.of hm (by decide)
  refine ⟨hT.kept g (by decide), hD.kept g (by decide), hO.kept g (by decide), hW.kept g (by decide), hM.kept g (by decide), hS.kept g (by decide), hC.kept g (by decide), hL.kept g (by decide), hF.kept g (by decide), hU.kept g (by decide), hR.kept g (by decide), hG.kept g (by decide), hK2.le (by omega), hP1.kept hA hm (by decide), ?_, ?_, ?_⟩
  · unfold StB at *
    rw [hm.f 27 6 (by decide), hm.k 28 (by decide)]
    exact hSt
  · rw [hm.f 27 6 (by decide)]; have := hN.2.1; omega
  · rw [hm.f 37 0 (by decide)]; exact h37
/-- where a rising list stands at v -/
def En (e : Int → Int) (k v j : Int) : Prop := (0 ≤ j ∧ j ≤ k) ∧ (∀ i, 0 ≤ i → i < j → e i < v) ∧ ∀ i, j ≤ i → i < k → v ≤ e i
theorem En_0 {e : Int → Int} {k : Int} (hk : 0 ≤ k) (h0 : ∀ i, 0 ≤ i → i < k → 0 ≤ e i) : En e k 0 0 := ⟨by omega, fun i a b => by omega, h0⟩
theorem En_y {e : Int → Int} {k v j : Int} (hm : ∀ i j, 0 ≤ i → i < j → j < k → e i < e j) (h : En e k v j) (hp : ∃ i, 0 ≤ i ∧ i < k ∧ e i = v) : e j = v ∧ j < k ∧ En e k (v + 1) (j + 1) := by
  obtain ⟨i, i0, i1, i2⟩ := hp
  obtain ⟨h1, h2, h3⟩ := h
  have hij : i = j := by
    rcases (show i < j ∨ i = j ∨ j < i by omega) with q | q | q
    · have := h2 i i0 q; omega
    · exact q
    · have := hm j i h1.1 q i1
      have := h3 j (Int.le_refl _) (by omega)
      omega
  subst hij
  refine ⟨i2, i1, by omega, fun a a0 a1 => ?_, fun a a0 a1 => ?_⟩
  · rcases (show a < i ∨ a = i by omega) with q | q
    · have := h2 a a0 q; omega
    · rw [q]; omega
  · have := hm i a i0 (by omega) a1; omega
theorem En_n {e : Int → Int} {k v j : Int} (h : En e k v j) (hp : ¬ ∃ i, 0 ≤ i ∧ i < k ∧ e i = v) : En e k (v + 1) j := by
  obtain ⟨h1, h2, h3⟩ := h
  refine ⟨h1, fun i i0 i1 => by have := h2 i i0 i1; omega, fun i i0 i1 => ?_⟩
  have := h3 i i0 i1
  rcases (show e i = v ∨ e i ≠ v by omega) with q | q
  · exact absurd ⟨i, by omega, i1, q⟩ hp
  · omega
theorem En_end {e : Int → Int} {k v j : Int} (h : En e k v j) (hr : ∀ i, 0 ≤ i → i < k → e i < v) : j = k := by
  obtain ⟨h1, h2, h3⟩ := h
  rcases (show j = k ∨ j < k by omega) with q | q
  · exact q
  · have := h3 j (Int.le_refl _) q
    have := hr j h1.1 q
    omega
theorem lok_can {c t w : Int} (hl : lok m c t) (hw : 0 ≤ w) (hc : Can ν t) (hA : MA m ν) (h16 : 0 ≤ c ∧ c < 16) (hw2 : w < 120) : (ν 108 (120 * c + w) = 0 ∨ ν 108 (120 * c + w) = 1) ∧ (ν 108 (120 * c + w) ≠ 0 ↔ ∃ i, 0 ≤ i ∧ i < m 42 c ∧ m 41 (c * 120 + i) = w) := by
  rw [hc c w h16.1 h16.2 hw hw2, pos_eq hA]
  exact ⟨ind_01 _, by rw [ind_ne]; exact (hl.2.2.2 w).symm⟩
theorem op_possible (hI : INV N μ) (hN9 : 0 ≤ N ∧ N ≤ 600) {c t : Int} (hc : iR c) (ht : iR t) : SIM G l (d + 60) mX11_possible mX12_possible [xi c, xi t] N μ := by
  obtain ⟨hT, hD, hO, hW, hM, hS, hC, hL, hF, hU, hR, hG, hK, hP, hN⟩ := id hI
  have hX : XW μ := ⟨hW, hM, hS, hC, hD⟩
  have hbw := hW.1.1
  have nb := hN.2.1
  -- the model, no telling
  have fail : ∀ m1, FrX Sx Tx μ m1 → gP m1 → StB m1 → m1 27 6 ≤ μ 27 6 + 2000 → m1 37 0 = 0 → (∀ tl, ¬ isTl μ c t tl) → CI G l (d + 60) mX12_possible [xr G 74, xi c, xi t] m1 (fun r' m' => -1 = r' ∧ INV (N + 1) m') := by
    intro m1 f1 g1 s1 b1 c1 hz
    have hA1 : MA μ m1 := MA.of f1 (by decide)
    have f2 : FrX Sm Tm m1 (st2 m1 74 0 0) := FrX.st.sub (by decide) (by decide)
    have hA2 : MA μ (st2 m1 74 0 0) := hA1.tr (MA.of f2 (by decide))
    have fin : INV (N + 1) (st2 m1 74 0 0) := hI.q f1 f2 g1 s1 b1 c1 (hK.kept hA2 (f1.tr (FrX.st (k := 74) (i := 0))) (by decide))
    apply E_X12_possible
    refine s_isIn hc (by decide) (by decide) (fun r g => ⟨fun _ => ⟨rfl, fin⟩, fun z => s_mTellingOf hC hA2 hc ht (fun r5 h5 => ⟨fun z2 => ?_, fun _ => ⟨rfl, fin⟩⟩)⟩)
    rcases h5 with q | q
    · have := q.1; omega
    · exact absurd q (hz _)
  unfold SIM
  apply E_X11_possible
  refine s_isTold hC ⟨rfl, rfl, rfl, rfl, rfl, rfl⟩ hc (fun r g => ⟨fun z => fail μ FrX.rf hP hN.1 (by omega) hN.2.2 (fun tl q => (bit0 g).mp z (tl_told hC q)), fun z => ?_⟩)
  have hc16 := ((bitne g).mp z).1
  refine s_recall hc16 ht hX hP hN.1 (by omega) hN.2.2 (fun r5 m1 f1 g1 s1 b1 c1 o1 l1 h5 => ⟨fun z2 => ?_, fun z2 => fail m1 (f1.sub (by decide) (by decide)) g1 s1 (by omega) c1 (fun tl q => (bit0 h5).mp z2 ⟨tl, q⟩)⟩)
  obtain ⟨tl, htl⟩ := (bitne h5).mp z2
  have hA1 : MA μ m1 := MA.of f1 (by decide)
  have e20 : m1 74 20 = μ 74 20 := hA1.2 20 (by decide) (by decide)
  refine ⟨hc16, by have := l1.1; omega, ?_⟩
  have f2 : FrX [] [(74, 0)] m1 (st2 m1 74 0 0) := FrX.st
  have hA2 : MA m1 (st2 m1 74 0 0) := MA.of f2 (by decide)
  apply E_X12_possible
  generalize hm2 : st2 m1 74 0 0 = m2 at *
  have f12 := f1.tr f2
  have hA12 := hA1.tr hA2
  refine s_isIn hc (by decide) (by decide) (fun r1 g1' => ⟨fun y => absurd (show 0 ≤ c ∧ c ≤ 15 by omega) ((bit0 g1').mp y), fun _ => s_mTellingOf (μ := μ) hC hA12 hc ht (fun r8 h8 => ⟨fun _ => ?_, fun y => ?_⟩)⟩)
  · refine s_mfind hN9 ht (hX.kept f12 (by decide)) (hK.kept hA12 f12 (by decide)) (fun m3 f3 k3 can3 => ?_)
    have hA3 : MA m2 m3 := MA.of f3 (by decide)
    have hA13 : MA m1 m3 := hA2.tr hA3
    have e203 : m3 74 20 = μ 74 20 := by rw [hA13.2 20 (by decide) (by decide)]; exact e20
    have fin : INV (N + 1) m3 := hI.q (f1.sub (by decide) (by decide)) ((f2.tr f3).sub (by decide) (by decide)) g1 s1 (by omega) c1 k3
    have main : ∀ (n : Nat) (v j : Int), v + n = μ 74 20 → 0 ≤ v → En (fun i => m1 41 (c * 120 + i)) (m1 42 c) v j → K_X12_possible_36 G l (d + 60) (fun r' m' => m1 42 c = r' ∧ INV (N + 1) m') c j v m3 := by
      intro n
      induction n with
      | zero =>
        intro v j hv v0 he
        have hj := En_end he (fun i i0 i1 => by have := l1.2.2.1 i i0 i1; omega)
        have := l1.1
        apply B_X12_possible_36
        rw [e203]
        exact ⟨by omega, by omega, fun _ => ⟨by omega, hj.symm, fin⟩, fun y => by omega⟩
      | succ n ih =>
        intro v j hv v0 he
        obtain ⟨p1, p2⟩ := lok_can (w := v) l1 v0 can3 hA13 hc16 (by omega)
        have p0 : iR (m3 108 (120 * c + v)) := by rcases p1 with e | e <;> rw [e] <;> decide
        apply B_X12_possible_36
        rw [e203]
        refine ⟨by omega, by omega, fun y => by omega, fun _ => ⟨by omega, p0, fun y => ?_, fun y => ?_⟩⟩
        · rw [Int.add_zero]
          exact ih (v + 1) j (by omega) (by omega) (En_n he (fun q => (p2.mpr q) y))
        · exact ih (v + 1) (j + 1) (by omega) (by omega) (En_y l1.2.1 he (p2.mp y)).2.2
    exact main (μ 74 20).toNat 0 0 (by omega) (by omega) (En_0 l1.1.1 (fun i i0 i1 => (l1.2.2.1 i i0 i1).1))
  · have := tlo_u h8 (Or.inr htl)
    have := htl.1
    omega
theorem op_possibleAt (hI : INV N μ) (hN9 : 0 ≤ N ∧ N ≤ 600) {c k t : Int} (hc : iR c) (hk : iR k) (ht : iR t) : SIM G l (d + 60) mX11_possibleAt mX12_possibleAt [xi c, xi k, xi t] N μ := by
  obtain ⟨hT, hD, hO, hW, hM, hS, hC, hL, hF, hU, hR, hG, hK, hP, hN⟩ := id hI
  have hX : XW μ := ⟨hW, hM, hS, hC, hD⟩
  have hbw := hW.1.1
  have nb := hN.2.1
  -- the model: the k-th of a list, or none
  have mdl : ∀ (m1 : xMem) (r : Int), FrX Sx Tx μ m1 → gP m1 → StB m1 → m1 27 6 ≤ μ 27 6 + 2000 → m1 37 0 = 0 → ((r = -1 ∧ ¬ (0 ≤ k ∧ (0 ≤ c ∧ c < 16) ∧ ∃ tl, isTl μ c t tl)) ∨ ((0 ≤ c ∧ c < 16) ∧ lok m1 c t ∧ ((r = -1 ∧ m1 42 c ≤ k) ∨ (0 ≤ k ∧ k < m1 42 c ∧ r = m1 41 (c * 120 + k))))) → CI G l (d + 60) mX12_possibleAt [xr G 74, xi c, xi k, xi t] m1 (fun r' m' => r = r' ∧ INV (N + 1) m') := by
    intro m1 r f1 g1 s1 b1 c1 hr
    have hA1 : MA μ m1 := MA.of f1 (by decide)
    have e20 : m1 74 20 = μ 74 20 := hA1.2 20 (by decide) (by decide)
    have f2 : FrX [] [(74, 0)] m1 (st2 m1 74 0 0) := FrX.st
    have hA2 : MA m1 (st2 m1 74 0 0) := MA.of f2 (by decide)
    have fin0 : INV (N + 1) (st2 m1 74 0 0) := hI.q f1 (f2.sub (by decide) (by decide)) g1 s1 b1 c1 (hK.kept (hA1.tr hA2) (f1.tr f2) (by decide))
    apply E_X12_possibleAt
    generalize hm2 : st2 m1 74 0 0 = m2 at *
    have f12 := f1.tr f2
    have hA12 := hA1.tr hA2
    have none : (k < 0 ∨ ¬ (0 ≤ c ∧ c < 16) ∨ ∀ tl, ¬ isTl μ c t tl) → r = -1 := by
      intro q
      rcases hr with y | ⟨y1, y2, y3⟩
      · exact y.1
      · rcases y3 with y | ⟨y4, y5, y6⟩
        · exact y.1
        · exfalso
          rcases q with q | q | q
          · omega
          · exact q y1
          · obtain ⟨tl, q2, _⟩ := (y2.2.2.2 _).mp ⟨k, y4, y5, rfl⟩
            rw [isTl_eq hA1] at q2
            exact q tl q2
    refine ⟨hk, fun z => ⟨none (Or.inl z), fin0⟩, fun z => s_isIn hc (by decide) (by decide) (fun r1 g1' => ⟨fun y => ⟨none (Or.inr (Or.inl (fun q => (bit0 g1').mp y (by omega)))), fin0⟩, fun y => s_mTellingOf (μ := μ) hC hA12 hc ht (fun r8 h8 => ⟨fun y2 => ?_, fun y2 => ⟨none (Or.inr (Or.inr ?_)), fin0⟩⟩)⟩)⟩
    · have hc16 : 0 ≤ c ∧ c < 16 := by have := (bitne g1').mp y; omega
      have htl : isTl μ c t r8 := by
        rcases h8 with q | q
        · have := q.1; omega
        · exact q
      have l1 : lok m1 c t ∧ ((r = -1 ∧ m1 42 c ≤ k) ∨ (0 ≤ k ∧ k < m1 42 c ∧ r = m1 41 (c * 120 + k))) := by
        rcases hr with q | q
        · exact absurd ⟨z, hc16, r8, htl⟩ q.2
        · exact q.2
      obtain ⟨l1, l2⟩ := l1
      refine s_mfind hN9 ht (hX.kept f12 (by decide)) (hK.kept hA12 f12 (by decide)) (fun m3 f3 k3 can3 => ?_)
      have hA3 : MA m2 m3 := MA.of f3 (by decide)
      have hA13 : MA m1 m3 := hA2.tr hA3
      have e203 : m3 74 20 = μ 74 20 := by rw [hA13.2 20 (by decide) (by decide)]; exact e20
      have fin : INV (N + 1) m3 := hI.q f1 ((f2.tr f3).sub (by decide) (by decide)) g1 s1 b1 c1 k3
      have main : ∀ (n : Nat) (v j : Int), v + n = μ 74 20 → 0 ≤ v → j ≤ k → En (fun i => m1 41 (c * 120 + i)) (m1 42 c) v j → K_X12_possibleAt_41 G l (d + 60) (fun r' m' => r = r' ∧ INV (N + 1) m') c (k - j) v m3 := by
        intro n
        induction n with
        | zero =>
          intro v j hv v0 hjk he
          have hj := En_end he (fun i i0 i1 => by have := l1.2.2.1 i i0 i1; omega)
          apply B_X12_possibleAt_41
          rw [e203]
          refine ⟨by omega, by omega, fun _ => ⟨?_, fin⟩, fun y => by omega⟩
          rcases l2 with q | q
          · exact q.1
          · omega
        | succ n ih =>
          intro v j hv v0 hjk he
          obtain ⟨p1, p2⟩ := lok_can (w := v) l1 v0 can3 hA13 hc16 (by omega)
          have p0 : iR (m3 108 (120 * c + v)) := by rcases p1 with e | e <;> rw [e] <;> decide
          have hjb := he.1
          apply B_X12_possibleAt_41
          rw [e203]
          refine ⟨by omega, by omega, fun y => by omega, fun _ => ⟨by omega, p0, fun y => ⟨by omega, fun y2 => ?_, fun y2 => ⟨?_, fin⟩⟩, fun y => ?_⟩⟩
          · rw [show k - j + -1 = k - (j + 1) by omega]
            exact ih (v + 1) (j + 1) (by omega) (by omega) (by omega) (En_y l1.2.1 he (p2.mp y)).2.2
          · obtain ⟨e1, e2, -⟩ := En_y l1.2.1 he (p2.mp y)
            have ejk : j = k := by omega
            subst ejk
            rcases l2 with q | q
            · omega
            · rw [q.2.2]; exact e1
          · exact ih (v + 1) j (by omega) (by omega) hjk (En_n he (fun q => (p2.mpr q) y))
      have := main (μ 74 20).toNat 0 0 (by omega) (by omega) z (En_0 l1.1.1 (fun i i0 i1 => (l1.2.2.1 i i0 i1).1))
      rw [show k - 0 = k by omega] at this
      exact this
    · intro tl q
      have := tlo_u h8 (Or.inr q)
      have := q.1
      omega
  unfold SIM
  apply E_X11_possibleAt
  refine s_isTold hC ⟨rfl, rfl, rfl, rfl, rfl, rfl⟩ hc (fun r g => ⟨fun z => mdl μ (-1) FrX.rf hP hN.1 (by omega) hN.2.2 (Or.inl ⟨rfl, fun q => (bit0 g).mp z ?_⟩), fun z => ?_⟩)
  · obtain ⟨-, -, tl, q⟩ := q
    exact tl_told hC q
  · have hc16 := ((bitne g).mp z).1
    refine s_recall hc16 ht hX hP hN.1 (by omega) hN.2.2 (fun r5 m1 f1 g1 s1 b1 c1 o1 l1 h5 => ⟨fun z2 => mdl m1 (-1) (f1.sub (by decide) (by decide)) g1 s1 (by omega) c1 (Or.inl ⟨rfl, fun q => (bit0 h5).mp z2 q.2.2⟩), fun z2 => ⟨hk, fun z3 => mdl m1 (-1) (f1.sub (by decide) (by decide)) g1 s1 (by omega) c1 (Or.inl ⟨rfl, by omega⟩), fun z3 => ⟨hc16, ?_, fun z4 => ?_, fun z4 => mdl m1 (-1) (f1.sub (by decide) (by decide)) g1 s1 (by omega) c1 (Or.inr ⟨hc16, l1, Or.inl ⟨rfl, z4⟩⟩)⟩⟩⟩)
    · have := l1.1
      have e20 : m1 74 20 = μ 74 20 := f1.f 74 20 (by decide)
      omega
    · have lr := l1.2.2.1 k z3 z4
      have e20 : m1 74 20 = μ 74 20 := f1.f 74 20 (by decide)
      have := l1.1
      apply E_X6_wordAt
      exact ⟨by omega, by omega, mdl m1 _ (f1.sub (by decide) (by decide)) g1 s1 (by omega) c1 (Or.inr ⟨hc16, l1, Or.inr ⟨z3, z4, rfl⟩⟩)⟩
end Poss2
