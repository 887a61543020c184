/-! fillings -/
section Fill3
variable {G : xG} {l : Launch} {d : Nat} {μ ν α m y z : xMem} {P : Int → xMem → Prop} {PV' : xMem → Prop} {N t : Int}
theorem INV.qf {m1 m2 : xMem} (hI : INV N μ) (hx : FrX (63 :: Sx) Tx μ m1) (hm : FrX (122 :: Sm) ((74, 72) :: Tm) m1 m2) (hP1 : gP m1) (hSt : StB m1) (hb : m1 27 6 ≤ μ 27 6 + 2000) (h37 : m1 37 0 = 0) (hK2 : gK N m2) (hF2 : gF m2) : INV (N + 1) m2 := by
  obtain ⟨hT, hD, hO, hW, hM, hS, hC, hL, hF, hU, hR, hG, hK, hP, hN⟩ := id hI
  have g := hx.tr hm
  have hA : MA m1 m2 := MA.of hm (by decide)
  refine ⟨hT.kept g (by decide), hD.kept g (by decide), hO.kept g (by decide), hW.kept g (by decide), hM.kept g (by decide), hS.kept g (by decide), hC.kept g (by decide), hL.kept g (by decide), hF2, hU.kept g (by decide), hR.kept g (by decide), hG.kept g (by decide), hK2.le (by omega), hP1.kept hA hm (by decide), ?_, ?_, ?_⟩
  · unfold StB at *
    rw [hm.f 27 6 (by decide), hm.k 28 (by decide)]
    exact hSt
  · rw [hm.f 27 6 (by decide)]; have := hN.2.1; omega
  · rw [hm.f 37 0 (by decide)]; exact h37
theorem ix_surj : ∀ (n : Nat), n ≤ 16 → ∀ i, 0 ≤ i → i < ix α n → ∃ c, lit α c ∧ ix α c = i
  | 0, _, i, h0, h1 => by
    have e : ix α ((0 : Nat) : Int) = 0 := rfl
    omega
  | n + 1, hn, i, h0, h1 => by
    have e := ix_s (α := α) (c := (n : Int)) (by omega)
    rw [show ((n + 1 : Nat) : Int) = (n : Int) + 1 by omega, e] at h1
    by_cases q : α 117 n = 1
    · rw [ind_t q] at h1
      rcases (show i < ix α n ∨ i = ix α n by omega) with q2 | q2
      · exact ix_surj n (by omega) i h0 q2
      · exact ⟨n, ⟨by omega, by omega, q⟩, q2.symm⟩
    · rw [ind_f q] at h1
      exact ix_surj n (by omega) i h0 (by omega)
def s0' : xSt := (0, 0, fun _ => -1)
/-- what fillings answers, and tells, out of what was found -/
theorem s_mFillings (hN9 : 0 ≤ N ∧ N ≤ 600) (ht : iR t) (hG : gG α) (hW : gW α) (hX : XW m) (hK : gK N m) (hx : mG α m) {Q : Int → xMem → Prop}
    (h0 : ix α 16 = 0 → ∀ z, FrX (120 :: Sf) ((74, 0) :: Tf) m z → gK N z → Q 0 z)
    (h1 : ix α 16 ≠ 0 → 20000 < (dfs α t 16 (fun _ => -1) s0').2.1 → ∀ z, FrX (120 :: 121 :: 123 :: Sf) ((74, 0) :: Tf) m z → gK N z → Q (-2) z)
    (h2 : ix α 16 ≠ 0 → (dfs α t 16 (fun _ => -1) s0').2.1 ≤ 20000 → (dfs α t 16 (fun _ => -1) s0').1 ≤ 0 → ∀ z, FrX (120 :: 121 :: 123 :: Sf) ((74, 0) :: Tf) m z → gK N z → Q (dfs α t 16 (fun _ => -1) s0').1 z)
    (h3 : ix α 16 ≠ 0 → (dfs α t 16 (fun _ => -1) s0').2.1 ≤ 20000 → 0 < (dfs α t 16 (fun _ => -1) s0').1 → sok (dfs α t 16 (fun _ => -1) s0') → ∀ z, FrX (120 :: 121 :: 122 :: 123 :: Sf) ((74, 0) :: (74, 72) :: Tf) m z → gK N z → z 74 72 = 1 → (∀ i, 0 ≤ i → i < 16 → z 122 i = (dfs α t 16 (fun _ => -1) s0').2.2 i) → Q (dfs α t 16 (fun _ => -1) s0').1 z) : CI G l (d + 10) mX12_fillings [xr G 74, xi t] m Q := by
  have f0 : FrX [] [(74, 0)] m (st2 m 74 0 0) := FrX.st
  apply E_X12_fillings
  generalize st2 m 74 0 0 = m0 at *
  refine s_mfind hN9 ht (hX.kept f0 (by decide)) (hK.kept (MA.of f0 (by decide)) f0 (by decide)) (fun m1 f1 k1 can => ?_)
  have f01 := f0.tr f1
  have hx1 : mG α m1 := hx.kept f01 (by decide)
  have hA1 : MA α m1 := hx1.2.2.2.2.2.2
  have i16 := ix_b (α := α) (c := 16) (by decide)
  have fin : ∀ z1, FrX [120] [] m1 z1 → ordr α z1 → K_X12_fillings_14 G l (d + 10) Q (ix α 16) 16 z1 := by
    intro z1 fz or1
    have g1 := f01.tr fz
    have kz : gK N z1 := k1.kept (MA.of fz (by decide)) fz (by decide)
    apply B_X12_fillings_14
    refine ⟨by decide, fun _ => ⟨by omega, fun q => ?_, fun q => h0 q z1 (g1.sub (by decide) (by decide)) kz⟩, fun q => absurd q (by decide)⟩
    have f2 : FrX [121] [] z1 (st2 z1 121 0 (-1)) := FrX.sa
    have hx2 : mG α (st2 z1 121 0 (-1)) := (hx1.kept fz (by decide)).kept f2 (by decide)
    have or2 : ordr α (st2 z1 121 0 (-1)) := ⟨fun c hc => by rw [st_n _ _ _ _ _ _ (by decide)]; exact or1.1 c hc, or1.2⟩
    have e120 : (st2 z1 121 0 (-1)) 121 0 = -1 := st_s _ _ _ _
    generalize st2 z1 121 0 (-1) = z2 at *
    have kz2 : gK N z2 := kz.kept (MA.of f2 (by decide)) f2 (by decide)
    have g2 := g1.tr f2
    have e00 : (16 : Int) - ((16 : Nat) : Int) = 0 := by decide
    have ix0 : ix α 0 = 0 := rfl
    have kk : ∀ z', FrX [121, 123] [] z2 z' → gK N z' := fun z' f => kz2.kept (MA.of f (by decide)) f (by decide)
    have tell : ∀ z', MS z2 z' (dfs α t 16 (fun _ => -1) s0') → (dfs α t 16 (fun _ => -1) s0').2.1 ≤ 20000 → 0 < (dfs α t 16 (fun _ => -1) s0').1 → sok (dfs α t 16 (fun _ => -1) s0') → CV G l (d + 9) mX12_tellFirst [xr G 74] z' (fun m9 => Q (dfs α t 16 (fun _ => -1) s0').1 m9) := by
      intro z' mz' q1 q2 q3
      refine s_tellFirst (F := (dfs α t 16 (fun _ => -1) s0').2.2) (mz'.2 (by omega)) (fun i i0 i1 => by have := q3.2.2 (by omega) i i0 i1; omega) (fun z3 f3 e3 e4 => h3 q q1 q2 q3 z3 ((g2.tr (mz'.1.tr f3)).sub (by decide) (by decide)) ((kk z' mz'.1).kept (MA.of f3 (by decide)) f3 (by decide)) e3 e4)
    have := s_mFill (d := d + 7) (α := α) (t := t) (m := z2) hG hW hx2 or2 (fun c w c0 c1 w0 w1 => by rw [f2.k 108 (by decide), fz.k 108 (by decide), can c w c0 c1 w0 w1, pos_eq hA1]) (Q := Q) 16 (by decide) z2 (fun _ => -1) s0' (by rw [e00, ix0]; omega) ⟨FrX.rf, fun q => absurd rfl q⟩ ⟨by unfold s0'; simp, by unfold s0'; simp, fun q => absurd rfl q⟩ (by unfold stp s0'; simp) (fun o o0 oc => by rw [e00] at oc; omega) (fun o lo oc => by rw [e00] at oc; have := lo.1; omega) (fun o _ _ => rfl) (by rw [e00, ix0]; exact e120) (fun ns ks z' mz' oz' => ?_) (fun q1 z' fz' => h1 q q1 z' ((g2.tr fz').sub (by decide) (by decide)) (kk z' fz')) (fun q1 q2 ks z' mz' => tell z' mz' q1 (by omega) ks)
    · rw [e00, ix0] at this
      exact this
    · rw [e00, ix0]
      have kb := ks.1
      have nst : (dfs α t 16 (fun _ => -1) s0').2.1 ≤ 20000 := by unfold stp at ns; omega
      apply B_X12_fillings_69
      exact ⟨by decide, fun _ => ⟨by omega, fun q1 => h2 q nst q1 z' ((g2.tr mz'.1).sub (by decide) (by decide)) (kk z' mz'.1), fun q1 => tell z' mz' nst q1 ks⟩, fun q1 => absurd q1 (by decide)⟩
  have main : ∀ (n v : Nat) (z1 : xMem), v + n = 16 → FrX [120] [] m1 z1 → (∀ c, lit α c → c < (v : Int) → z1 120 (ix α c) = c) → K_X12_fillings_14 G l (d + 10) Q (ix α v) (v : Int) z1 := by
    intro n
    induction n with
    | zero =>
      intro v z1 hv fz hz
      have e : v = 16 := by omega
      subst e
      exact fin z1 fz ⟨fun c hc => hz c hc (by have := hc.2.1; omega), ix_surj 16 (by decide)⟩
    | succ n ih =>
      intro v z1 hv fz hz
      have h01 := (hG.1.1 (v : Int) (by omega) (by omega)).1
      have e1 := ix_s (α := α) (c := (v : Int)) (by omega)
      have ib := ix_b (α := α) (c := (v : Int)) (by omega)
      have e117 : z1 117 = α 117 := by rw [fz.k 117 (by decide)]; exact hx1.2.2.2.2.1
      apply B_X12_fillings_14
      rw [e117]
      refine ⟨by omega, fun q => by omega, fun _ => ⟨by omega, by omega, fun q => ⟨by omega, ?_⟩, fun q => ?_⟩⟩
      · have q1 : α 117 v = 1 := by omega
        rw [ind_t q1] at e1
        have := ih (v + 1) (st2 z1 120 (ix α v) v) (by omega) ((fz.tr FrX.sa).sub (by decide) (by decide)) (fun c hc hcv => ?_)
        · rw [show ((v + 1 : Nat) : Int) = (v : Int) + 1 by omega, e1] at this
          exact this
        · rw [st_i]
          by_cases q2 : c = (v : Int)
          · rw [q2, if_pos rfl]
          · have := ix_lt hc (show c < (v : Int) by omega)
            rw [if_neg (by omega)]
            exact hz c hc (by omega)
      · have q1 : ¬ α 117 v = 1 := by omega
        rw [ind_f q1, Int.add_zero] at e1
        have := ih (v + 1) z1 (by omega) fz (fun c hc hcv => hz c hc (by
          rcases (show c < (v : Int) ∨ c = (v : Int) by omega) with q2 | q2
          · exact q2
          · exact absurd (by rw [← q2]; exact hc.2.2) q1))
        rw [show ((v + 1 : Nat) : Int) = (v : Int) + 1 by omega, e1] at this
        exact this
  exact main 16 0 m1 (by omega) FrX.rf (fun c hc hcv => by have := hc.1; omega)
theorem op_fillings (hI : INV N μ) (hN9 : 0 ≤ N ∧ N ≤ 600) (ht : iR t) : SIM G l (d + 60) mX11_fillings mX12_fillings [xi t] N μ := by
  obtain ⟨hT, hD, hO, hW, hM, hS, hC, hL, hF, hU, hR, hG, hK, hP, hN⟩ := id hI
  have hX : XW μ := ⟨hW, hM, hS, hC, hD⟩
  have nb := hN.2.1
  have i16 := ix_b (α := μ) (c := 16) (by decide)
  unfold SIM
  apply E_X11_fillings
  refine s_recallLights ht hX hP hG hN.1 (by omega) hN.2.2 (fun m1 f1 g1 s1 b1 c1 l1 => ?_)
  have el : m1 46 9 = ix μ 16 := by rw [f1.f 46 9 (by decide)]; exact hG.2.1.2.2.2.2.1
  have mk : ∀ m2, FrX [61, 62, 63] [(58, 8), (58, 9)] m1 m2 → ∀ m3, FrX (122 :: Sm) ((74, 72) :: Tm) m2 m3 → gK N m3 → gF m3 → INV (N + 1) m3 := by
    intro m2 f2 m3 f3 k3 g3
    refine hI.qf (m1 := m2) ((f1.tr f2).sub (by decide) (by decide)) f3 (g1.kept (MA.of f2 (by decide)) f2 (by decide)) ?_ ?_ ?_ k3 g3
    · unfold StB at *
      rw [f2.k 28 (by decide), f2.f 27 6 (by decide)]
      exact s1
    · rw [f2.f 27 6 (by decide)]; omega
    · rw [f2.f 37 0 (by decide)]; exact c1
  have base : ∀ m2, FrX [61, 62, 63] [(58, 8), (58, 9)] m1 m2 → XW m2 ∧ gK N m2 ∧ mG μ m2 := fun m2 f2 => by
    have g := f1.tr f2
    exact ⟨hX.kept g (by decide), hK.kept (MA.of g (by decide)) g (by decide), mG.of g (by decide)⟩
  apply E_X10_fillAll
  rw [el]
  refine ⟨by omega, fun q => ?_, fun q => ?_⟩
  · refine s_fillI (k0 := 61) (n0 := 16) rfl (by decide) ?_
    have fy : FrX [61, 62] [(58, 8), (58, 9)] m1 (fil (st2 (st2 m1 58 8 0) 58 9 0) 61 0 (16 : Nat) (-1)) := by
      intro k i a b
      simp at a b
      unfold fil st2
      rw [if_neg (by omega), if_neg (by omega), if_neg (by omega)]
    have e8 : (fil (st2 (st2 m1 58 8 0) 58 9 0) 61 0 (16 : Nat) (-1)) 58 8 = 0 := by simp [fil, st2]
    have e9 : (fil (st2 (st2 m1 58 8 0) 58 9 0) 61 0 (16 : Nat) (-1)) 58 9 = 0 := by simp [fil, st2]
    have e61 : ∀ o, 0 ≤ o → o < 16 → (fil (st2 (st2 m1 58 8 0) 58 9 0) 61 0 (16 : Nat) (-1)) 61 o = -1 := fun o o0 o1 => by simp [fil]; intro z; omega
    generalize fil (st2 (st2 m1 58 8 0) 58 9 0) 61 0 (16 : Nat) (-1) = z0 at *
    have e00 : (16 : Int) - ((16 : Nat) : Int) = 0 := by decide
    have hfill := fun PV'' => s_fillFrom (G := G) (l := l) (d := d + 39) (α := μ) (t := t) (m := m1) hG hW (MA.of f1 (by decide)) (xG'.of f1 (by decide)) l1 16 (by decide) z0 (fun _ => -1) s0' PV'' fy ⟨e8, e9, fun q => absurd rfl q⟩ ⟨by unfold s0'; simp, by unfold s0'; simp, fun q => absurd rfl q⟩ (by unfold stp s0'; simp) (fun o o0 oc => by rw [e00] at oc; omega) (fun o o0 oc => by rw [e00] at oc; omega) (fun o o0 o1 _ => e61 o o0 o1) (fun o _ _ => rfl)
    rw [e00] at hfill
    refine hfill _ (fun z' f' x' k' o' u' => ?_)
    have kb1 := k'.1
    have kb2 := k'.2.1
    have f'' : FrX [61, 62, 63] [(58, 8), (58, 9)] m1 z' := f'.sub (by decide) (by decide)
    obtain ⟨bX, bK, bG⟩ := base z' f''
    rw [x'.2.1, x'.1]
    refine ⟨by omega, fun q1 => ⟨by omega, fun q2 => ?_, fun q2 => ?_⟩, fun q1 => ?_⟩
    · refine s_mFillings hN9 ht hG hW bX bK bG (fun e => absurd e q) (fun _ e => by omega) (fun _ _ _ m3 f3 k3 => ⟨rfl, mk z' f'' m3 (f3.sub (by decide) (by decide)) k3 (hF.kept (f1.tr (f'.tr f3)) (by decide))⟩) (fun _ _ e => by omega)
    · have f4 : FrX [63] [] z' (cpy z' 62 0 63 0 16) := FrX.cp
      have f5 : FrX [61, 62, 63] [(58, 8), (58, 9)] m1 (cpy z' 62 0 63 0 16) := (f'.tr f4).sub (by decide) (by decide)
      have e63 : ∀ i, 0 ≤ i → i < 16 → (cpy z' 62 0 63 0 16) 63 i = (dfs μ t 16 (fun _ => -1) s0').2.2 i := fun i i0 i1 => by
        rw [← x'.2.2 (by omega) i i0 i1]
        simp [cpy]
        intro z
        omega
      generalize cpy z' 62 0 63 0 16 = m2 at *
      obtain ⟨bX, bK, bG⟩ := base m2 f5
      refine s_mFillings hN9 ht hG hW bX bK bG (fun e => absurd e q) (fun _ e => by omega) (fun _ _ e => by omega) (fun _ _ _ ks m3 f3 k3 e72 e122 => ⟨rfl, mk m2 f5 m3 (f3.sub (by decide) (by decide)) k3 (Or.inr ⟨e72, fun c c0 c1 => ?_⟩)⟩)
      have := ks.2.2 (by omega) c c0 c1
      rw [f3.k 63 (by decide), e63 c c0 c1, e122 c c0 c1]
      exact ⟨rfl, by omega⟩
    · refine s_mFillings hN9 ht hG hW bX bK bG (fun e => absurd e q) (fun _ _ m3 f3 k3 => ⟨rfl, mk z' f'' m3 (f3.sub (by decide) (by decide)) k3 (hF.kept (f1.tr (f'.tr f3)) (by decide))⟩) (fun _ e => by omega) (fun _ e => by omega)
  · obtain ⟨bX, bK, bG⟩ := base m1 FrX.rf
    refine s_mFillings hN9 ht hG hW bX bK bG (fun _ m3 f3 k3 => ⟨rfl, mk m1 FrX.rf m3 (f3.sub (by decide) (by decide)) k3 (hF.kept (f1.tr f3) (by decide))⟩) (fun e => absurd q e) (fun e => absurd q e) (fun e => absurd q e)
end Fill3
