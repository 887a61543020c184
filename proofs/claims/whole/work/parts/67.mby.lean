/-! the model: plays by a sign at an end -/
section SpecMBy
variable {G : xG} {l : Launch} {d : Nat} {μ ν α : xMem} {P : Int → xMem → Prop} {PV' : xMem → Prop} {tl w t : Int}
theorem sgn_bit {v k : Int} (hK : Kn α t μ) (hv : 0 ≤ v ∧ v < α 74 20) (hk : 0 ≤ k ∧ k < 10) : jand (jshr (μ 90 v) k) 1 = 1 ↔ isSg α t v k := by
  obtain ⟨m, hm, e, hb⟩ := hK.1 v hv.1 hv.2
  obtain ⟨n, rfl⟩ : ∃ n : Nat, k = (n : Int) := ⟨k.toNat, by omega⟩
  rw [e, b_shr (by omega) (show n < 32 by omega), b_1, ← hb n (by omega), Nat.testBit_eq_decide_div_mod_eq]
  simp only [decide_eq_true_eq]
  have e2 : ((m : Int) / ((2 ^ n : Nat) : Int)) % 2 = ((m / 2 ^ n % 2 : Nat) : Int) := by rfl
  rw [e2]
  omega
def oSp (O : xO) (s a b S f t : Int) : List Tri := [(O.2.2.2.1 S 0 * O.2.2.1 0 s a b f t, 1, nSpr 30 S f t), (O.2.2.2.1 S 1 * O.2.2.1 1 s a b f t, 1, nSpr 24 S f t), (O.2.2.2.1 S 2 * O.2.2.1 2 s a b f t, 1, nSpr 23 S f t), (O.2.2.2.1 S 3 * O.2.2.1 3 s a b f t, 1, nSpr 25 S f t)]
def oCt (O : xO) (s a b S f t : Int) : List Tri := if f = t then [(O.2.2.2.1 S 5 * O.1 f 1 0 (tgA s a b), 3, nCut 21 S 28 f), (O.2.2.2.1 S 5 * O.2.1 f 1 0 (tgA s a b), 2, nCut 21 S 29 f), (O.2.2.2.1 S 6 * O.1 f 0 1 (tgA s a b), 3, nCut 22 S 28 f), (O.2.2.2.1 S 6 * O.2.1 f 0 1 (tgA s a b), 2, nCut 22 S 29 f)] else []
theorem sgd_eq (O : xO) (s a b S f t : Int) : oSgd O s a b S f t = oSp O s a b S f t ++ oCt O s a b S f t := rfl
def oBy (O : xO) (R : xV) (s a b S f t : Int) : List Tri := oSp O s a b S f t ++ (oTrn O R s a b S f t :: oCt O s a b S f t)
/-- a step of the offers: the state between them -/
def CS (α : xMem) (tl w t : Int) (μ ν : xMem) (F : Int → Int) (n : Int) (T : Tri) : Prop := Cu ν T ∧ FmN μ ν ∧ md_Run ν F n
theorem s_spread {c y S f e m n : Int} {F : Int → Int} {T : Tri} {p : Prop} (hc : c = chr y) (hy : 20 ≤ y ∧ y ≤ 31) (hS : 0 ≤ S ∧ S ≤ 7) (hf : 0 ≤ f ∧ f ≤ e ∧ e ≤ 7) (hm : m = e - f + 2) (hT : vW m T) (hTn : vN m T) (h0 : CS α tl w t μ ν F n T) (h : ∀ ν', CS α tl w t μ ν' F n (mg T (1, 1, nSpr y S f e)) → PV' ν') : CV G l (d + 2) mX12_sayWords [xr G 74, xi c, xi S, xi f, xi e] ν (fun m10 => CV G l (d + 2) mX12_offer [xr G 74, xi 1, xi 1] m10 PV') := by
  obtain ⟨c1, c2, c3⟩ := h0
  refine s_sayWords hc (by omega) hS hf (fun ν1 g1 f1 => ?_)
  have vv : vW m ((1 : Int), 1, nSpr y S f e) := by
    refine ⟨show (0 : Int) ≤ 1 by decide, fun _ => ⟨?_, ?_, show (0 : Int) ≤ 1 by decide, by simp only; omega⟩⟩
    · exact okN_app (okN_cons (by omega) (okN_cons (by omega) (ok1 (by omega)))) (okN_app (wds_ok _ _ hf.1 (by omega)) (ok1 (by omega)))
    · show ((nSpr y S f e).length : Int) ≤ _
      unfold nSpr
      simp [wds_len]
      omega
  exact s_moffer (M := m) (m := m) (u := ((1 : Int), 1, nSpr y S f e)) (by omega) (c1.kD f1) hT vv hTn (fun _ => n_spr hm hf hS (Or.inr hy.1)) (by omega) rfl (by decide) (fun _ => ⟨rfl, g1⟩) (fun ν2 g2 f2 => h ν2 ⟨g2, c2.tr (f1.c.tr f2).n, c3.c (f1.c.tr f2)⟩)
theorem s_bySign {S f e p q s m : Int} {T : Tri} (hw : wfW α) (hM : wfM α) (hR : MR α tl w t μ) (hs : s = 0 ∨ s = 1) (hp : 0 ≤ p ∧ p < q ∧ q ≤ α 77 w) (hS : 0 ≤ S ∧ S < α 87 tl) (hf : 0 ≤ f ∧ f ≤ e ∧ e < α 87 tl) (hm : m = e - f + 2) (hm9 : m ≤ 8) (hC : Cu μ T) (hF : md_Run μ (tgF α w (tgA s (sdA (α 77 w) s p q) (sdB (α 77 w) s p q))) (q - p)) (hT : vW m T) (hTn : vN m T)
    (hrow : HdX 95 96 97 99 μ (mp f e p q (1 - s)) (RV (Orc α tl w t) (1 - s) f e (α 77 w - sdB (α 77 w) s p q) (α 77 w - sdA (α 77 w) s p q)))
    (h : ∀ ν, Cu ν (mgL T (oBy (Orc α tl w t) (RV (Orc α tl w t)) s (sdA (α 77 w) s p q) (sdB (α 77 w) s p q) S f e)) → FmN μ ν → md_Run ν (tgF α w (tgA s (sdA (α 77 w) s p q) (sdB (α 77 w) s p q))) (q - p) → PV' ν) : CV G l (d + 4) mX12_bySign [xr G 74, xi S, xi f, xi e, xi p, xi q, xi s] μ PV' := by
  have hv := hR.2.2.2.2.2.2.1
  have hO := Orc_ok (tl := tl) (t := t) hw hv
  have ht := hR.2.2.2.1
  have hl := (hw.2 w hv.1 hv.2).1
  have hnn := hw.1
  have hba : sdB (α 77 w) s p q - sdA (α 77 w) s p q = q - p := by unfold sdA sdB; split <;> omega
  have hab : 0 ≤ sdA (α 77 w) s p q ∧ sdA (α 77 w) s p q < sdB (α 77 w) s p q ∧ sdB (α 77 w) s p q ≤ α 77 w := by unfold sdA sdB; split <;> omega
  generalize sdA (α 77 w) s p q = a at *
  generalize sdB (α 77 w) s p q = b at *
  obtain ⟨z1, z2, z3⟩ := hR.2.2.2.2.1 S hS.1 hS.2
  have hcw := (hR.2.2.2.2.1 f hf.1 (by omega)).2
  have es : ∀ k, (Orc α tl w t).2.2.2.1 S k = ind (isSg α t (cwd α tl S) k) := fun k => rfl
  have e0 : (Orc α tl w t).2.2.1 0 s a b f e = ind (isShf α tl (tgF α w (tgA s a b)) f e (q - p)) := by rw [← hba]; rfl
  have e1 : (Orc α tl w t).2.2.1 1 s a b f e = ind (isHds α tl (tgF α w (tgA s a b)) f e (q - p)) := by rw [← hba]; rfl
  have e2 : (Orc α tl w t).2.2.1 2 s a b f e = ind (isTls α tl (tgF α w (tgA s a b)) f e (q - p)) := by rw [← hba]; rfl
  have e3 : (Orc α tl w t).2.2.1 3 s a b f e = ind (isHid α tl (tgF α w (tgA s a b)) f e (q - p)) := by rw [← hba]; rfl
  have o1 : ∀ ah be, (Orc α tl w t).1 f ah be (tgA s a b) = ind (fit α (cwd α tl f) ah be (tgF α w (tgA s a b)) (q - p)) := by
    intro ah be
    show ind (fit α (cwd α tl f) ah be (tgF α w (tgA s a b)) (tgL (tgA s a b))) = _
    rw [tgL_A, hba]
  have o2 : ∀ ah be, (Orc α tl w t).2.1 f ah be (tgA s a b) = cntN α t (cwd α tl f) (fun v => fit α v ah be (tgF α w (tgA s a b)) (q - p)) (α 74 21).toNat := by
    intro ah be
    show cntN α t (cwd α tl f) (fun v => fit α v ah be (tgF α w (tgA s a b)) (tgL (tgA s a b))) (α 74 21).toNat = _
    rw [tgL_A, hba]
  have s0 := v_spr hO (k := 0) (s := s) (a := a) (b := b) (y := 30) (S := S) hm (by omega) (by omega) (by omega)
  have s1 := v_spr hO (k := 1) (s := s) (a := a) (b := b) (y := 24) (S := S) hm (by omega) (by omega) (by omega)
  have s2 := v_spr hO (k := 2) (s := s) (a := a) (b := b) (y := 23) (S := S) hm (by omega) (by omega) (by omega)
  have s3 := v_spr hO (k := 3) (s := s) (a := a) (b := b) (y := 25) (S := S) hm (by omega) (by omega) (by omega)
  have sn : ∀ (x y : Int), 20 ≤ y → vN m (x, 1, nSpr y S f e) := fun x y hy _ => n_spr hm (by omega) (by omega) (Or.inr hy)
  have vr : vW (m - 1) (RV (Orc α tl w t) (1 - s) f e (α 77 w - b) (α 77 w - a)) := by
    rw [show m - 1 = e - f + 1 by omega]
    exact v_RV hO hf.1 (by omega) (by omega) (show _ ≤ α 77 w by omega)
  have nr : vN (m - 1) (RV (Orc α tl w t) (1 - s) f e (α 77 w - b) (α 77 w - a)) := by
    rw [show m - 1 = e - f + 1 by omega]
    exact n_RV hO hf.1 (by omega) (by omega) (show _ ≤ α 77 w by omega)
  have vt : vW m (oTrn (Orc α tl w t) (RV (Orc α tl w t)) s a b S f e) := v_trn hO (by omega) vr
  have nt : vN m (oTrn (Orc α tl w t) (RV (Orc α tl w t)) s a b S f e) := n_trn (by omega) (by omega) nr
  have te : oTrn (Orc α tl w t) (RV (Orc α tl w t)) s a b S f e = (ind (isSg α t (cwd α tl S) 4) * (RV (Orc α tl w t) (1 - s) f e (α 77 w - b) (α 77 w - a)).1, 1 + (RV (Orc α tl w t) (1 - s) f e (α 77 w - b) (α 77 w - a)).2.1, nTrn S (RV (Orc α tl w t) (1 - s) f e (α 77 w - b) (α 77 w - a)).2.2) := rfl
  unfold oBy oSp oCt at h
  simp only [mgL_app, mgL_cons, mgL_nil] at h
  have n0 := sn ((Orc α tl w t).2.2.2.1 S 0 * (Orc α tl w t).2.2.1 0 s a b f e) 30 (by omega)
  have n1 := sn ((Orc α tl w t).2.2.2.1 S 1 * (Orc α tl w t).2.2.1 1 s a b f e) 24 (by omega)
  have n2 := sn ((Orc α tl w t).2.2.2.1 S 2 * (Orc α tl w t).2.2.1 2 s a b f e) 23 (by omega)
  have n3 := sn ((Orc α tl w t).2.2.2.1 S 3 * (Orc α tl w t).2.2.1 3 s a b f e) 25 (by omega)
  have w0 := vW_mg hT s0
  have x0 := vN_mg hT.1 s0.1 hTn n0
  have w1 := vW_mg w0 s1
  have x1 := vN_mg w0.1 s1.1 x0 n1
  have w2 := vW_mg w1 s2
  have x2 := vN_mg w1.1 s2.1 x1 n2
  have w3 := vW_mg w2 s3
  have x3 := vN_mg w2.1 s3.1 x2 n3
  have w4 := vW_mg w3 vt
  have x4 := vN_mg w3.1 vt.1 x3 nt
  rw [e0] at w0 x0 w1 x1 w2 x2 w3 x3 w4 x4 h
  rw [e1] at w1 x1 w2 x2 w3 x3 w4 x4 h
  rw [e2] at w2 x2 w3 x3 w4 x4 h
  rw [e3] at w3 x3 w4 x4 h
  simp only [es, o1, o2] at h w0 x0 w1 x1 w2 x2 w3 x3 w4 x4
  generalize hT1 : mg T (ind (isSg α t (cwd α tl S) 0) * ind (isShf α tl (tgF α w (tgA s a b)) f e (q - p)), 1, nSpr 30 S f e) = T1 at *
  generalize hT2 : mg T1 (ind (isSg α t (cwd α tl S) 1) * ind (isHds α tl (tgF α w (tgA s a b)) f e (q - p)), 1, nSpr 24 S f e) = T2 at *
  generalize hT3 : mg T2 (ind (isSg α t (cwd α tl S) 2) * ind (isTls α tl (tgF α w (tgA s a b)) f e (q - p)), 1, nSpr 23 S f e) = T3 at *
  generalize hT4 : mg T3 (ind (isSg α t (cwd α tl S) 3) * ind (isHid α tl (tgF α w (tgA s a b)) f e (q - p)), 1, nSpr 25 S f e) = T4 at *
  generalize hT5 : mg T4 (oTrn (Orc α tl w t) (RV (Orc α tl w t)) s a b S f e) = T5 at *
  generalize hX : μ 90 (cwd α tl S) = X
  have sgb : ∀ k, 0 ≤ k → k < 10 → (jand (jshr X k) 1 = 1 ↔ isSg α t (cwd α tl S) k) := fun k k0 k1 => by rw [← hX]; exact sgn_bit hR.2.1 ⟨z2, z3⟩ ⟨k0, k1⟩
  have k267 : ∀ ν T6, CS α tl w t μ ν (tgF α w (tgA s a b)) (q - p) T6 → vW m T6 → vN m T6 → (f ≠ e → ∀ ν, CS α tl w t μ ν (tgF α w (tgA s a b)) (q - p) T6 → PV' ν) → (f = e → ∀ ν, CS α tl w t μ ν (tgF α w (tgA s a b)) (q - p) (mg (mg T6 (ind (isSg α t (cwd α tl S) 6) * ind (fit α (cwd α tl f) 0 1 (tgF α w (tgA s a b)) (q - p)), 3, nCut 22 S 28 f)) (ind (isSg α t (cwd α tl S) 6) * cntN α t (cwd α tl f) (fun v => fit α v 0 1 (tgF α w (tgA s a b)) (q - p)) (α 74 21).toNat, 2, nCut 22 S 29 f)) → PV' ν) → K_X12_bySign_267 G l (d + 4) PV' S f e X ν := by
    intro ν T6 hcs v6 x6 hne heq
    apply B_X12_bySign_267
    refine ⟨by omega, by omega, fun z => hne z ν hcs, fun z => ⟨fun y => ?_, fun y => ?_⟩⟩
    · have h9 := heq z ν
      have nsg : ¬ isSg α t (cwd α tl S) 6 := fun q => y ((sgb 6 (by omega) (by omega)).mpr q)
      rw [mgi_0 nsg, mgi_0 nsg] at h9
      exact h9 hcs
    · have sg := (sgb 6 (by omega) (by omega)).mp y
      have h9 := heq z
      rw [mgi_1 sg, mgi_1 sg] at h9
      have m2 : m = 2 := by omega
      rw [m2] at v6 x6
      exact s_oneLess (y := 22) (M := 2) hw hM (hR.kept hcs.2.1.s) hcs.2.2 (by decide) (by omega) (by omega) (by omega) (by omega) (by omega) rfl hcs.1 v6 x6 (fun ν' g1 g2 g3 => h9 ν' ⟨g1, hcs.2.1.tr g2, g3⟩)
  have k242 : ∀ ν, CS α tl w t μ ν (tgF α w (tgA s a b)) (q - p) T5 → K_X12_bySign_242 G l (d + 4) PV' S f e X ν := by
    intro ν hcs
    apply B_X12_bySign_242
    refine ⟨by omega, by omega, fun z => k267 ν T5 hcs w4 x4 (fun _ ν' g => ?_) (fun z2 => absurd z2 z), fun z => ⟨fun y => k267 ν T5 hcs w4 x4 (fun z2 => absurd z z2) (fun _ ν' g => ?_), fun y => ?_⟩⟩
    · rw [if_neg z, mgL_nil] at h
      exact h ν' g.1 g.2.1 g.2.2
    · have nsg : ¬ isSg α t (cwd α tl S) 5 := fun q => y ((sgb 5 (by omega) (by omega)).mpr q)
      rw [if_pos z, mgL_cons, mgL_cons, mgL_cons, mgL_cons, mgL_nil, mgi_0 nsg, mgi_0 nsg] at h
      exact h ν' g.1 g.2.1 g.2.2
    · have sg := (sgb 5 (by omega) (by omega)).mp y
      rw [if_pos z, mgL_cons, mgL_cons, mgL_cons, mgL_cons, mgL_nil, mgi_1 sg, mgi_1 sg] at h
      have m2 : m = 2 := by omega
      have w4' := w4
      have x4' := x4
      rw [m2] at w4' x4'
      have cb0 := cntN_nn (α := α) (t := t) (a := cwd α tl f) (p := fun v => fit α v 1 0 (tgF α w (tgA s a b)) (q - p)) (α 74 21).toNat
      have i0 := ind_01 (fit α (cwd α tl f) 1 0 (tgF α w (tgA s a b)) (q - p))
      have va : vW m (ind (fit α (cwd α tl f) 1 0 (tgF α w (tgA s a b)) (q - p)), 3, nCut 21 S 28 f) := v_cut (by omega) (by omega) (by omega) (by omega) (by omega) (by omega) (by omega)
      have vb : vW m (cntN α t (cwd α tl f) (fun v => fit α v 1 0 (tgF α w (tgA s a b)) (q - p)) (α 74 21).toNat, 2, nCut 21 S 29 f) := v_cut (by omega) (by omega) (by omega) (by omega) (by omega) (by omega) (by omega)
      have na : vN m (ind (fit α (cwd α tl f) 1 0 (tgF α w (tgA s a b)) (q - p)), 3, nCut 21 S 28 f) := fun _ => by rw [m2]; exact n_cut (by omega) (by omega) (Or.inr (by omega)) (Or.inr (by omega))
      have nb : vN m (cntN α t (cwd α tl f) (fun v => fit α v 1 0 (tgF α w (tgA s a b)) (q - p)) (α 74 21).toNat, 2, nCut 21 S 29 f) := fun _ => by rw [m2]; exact n_cut (by omega) (by omega) (Or.inr (by omega)) (Or.inr (by omega))
      refine s_oneLess (y := 21) (M := 2) hw hM (hR.kept hcs.2.1.s) hcs.2.2 (by decide) (by omega) (by omega) (by omega) (by omega) (by omega) rfl hcs.1 w4' x4' (fun ν' g1 g2 g3 => k267 ν' _ ⟨g1, hcs.2.1.tr g2, g3⟩ (vW_mg (vW_mg w4 va) vb) (vN_mg (vW_mg w4 va).1 vb.1 (vN_mg w4.1 va.1 x4 na) nb) (fun z2 => absurd z z2) (fun _ ν2 g => h ν2 g.1 g.2.1 g.2.2))
  have k151 : ∀ ν, CS α tl w t μ ν (tgF α w (tgA s a b)) (q - p) T4 → K_X12_bySign_151 G l (d + 4) PV' S f e p q s X ν := by
    intro ν hcs
    have hk : HdX 95 96 97 99 ν (mp f e p q (1 - s)) (RV (Orc α tl w t) (1 - s) f e (α 77 w - b) (α 77 w - a)) := hrow.kept hcs.2.1 (by decide) (by decide) (by decide) (by decide)
    have hom : okM f e p q (1 - s) := ⟨by omega, by omega, by omega⟩
    have hmb := mp_b hom
    generalize hr : RV (Orc α tl w t) (1 - s) f e (α 77 w - b) (α 77 w - a) = R at *
    have r0 := vr.1
    have wb : 0 ≤ cap 1000 R.1 ∧ cap 1000 R.1 ≤ 1000 ∧ (cap 1000 R.1 = 0 ↔ R.1 = 0) := by unfold cap; grind
    apply B_X12_bySign_151
    refine s_at hom ⟨fun y => k242 ν ?_, fun y => ⟨hmb, by rw [hk.1]; omega, fun y2 => k242 ν ?_, fun y2 => ?_⟩⟩
    · have nsg : ¬ isSg α t (cwd α tl S) 4 := fun q => y ((sgb 4 (by omega) (by omega)).mpr q)
      rw [← hT5, te, mgi_0 nsg]
      exact hcs
    · rw [hk.1] at y2
      have : R.1 = 0 := wb.2.2.mp (by omega)
      rw [← hT5, te, this, Int.mul_zero, mg_none rfl]
      exact hcs
    · rw [hk.1] at y2
      have rz : R.1 ≠ 0 := fun q => by have := wb.2.2.mpr q; omega
      have sg := (sgb 4 (by omega) (by omega)).mp y
      obtain ⟨q1, q2, q3, q4⟩ := vr.2 rz
      have enm : nm R = R.2.2 := by unfold nm; rw [if_neg rz]
      have ecs : cs R = R.2.1 := by unfold cs; rw [if_neg rz]
      have nb := hk.2.2
      rw [enm] at nb
      refine s_mopen (fun m1 g1 f1 => s_say (s := 31) (by decide) (by omega) g1 (by simp) (fun m2 g2 f2 => s_say (chr_word (by omega)) (by omega) g2 (by simp) (fun m3 g3 f3 => s_say (s := 1) (by decide) (by omega) g3 (by simp) (fun m4 g4 f4 => s_sayRow hmb q1 (by omega) (nb.kD (f1.tr (f2.tr (f3.tr f4))) (by decide) (by decide)) g4 (by simp; omega) (fun m5 g5 f5 => s_say (s := 2) (by decide) (by omega) g5 (by simp; omega) (fun m6 g6 f6 => ?_))))))
      have fD := f1.tr (f2.tr (f3.tr (f4.tr (f5.tr f6))))
      have hk6 := hk.kept fD.c.n (by decide) (by decide) (by decide) (by decide)
      rw [hk6.1, hk6.2.1, ecs]
      have eu : mg T4 (R.1, 1 + R.2.1, nTrn S R.2.2) = T5 := by rw [← hT5, te, mgi_1 sg]
      have vu : vW m (R.1, 1 + R.2.1, nTrn S R.2.2) := by
        rw [te, ind_t sg, Int.one_mul] at vt; exact vt
      have nu : vN m (R.1, 1 + R.2.1, nTrn S R.2.2) := by
        rw [te, ind_t sg, Int.one_mul] at nt; exact nt
      refine s_moffer (M := m) (m := m) (T := T4) (u := (R.1, 1 + R.2.1, nTrn S R.2.2)) (by omega) (hcs.1.kD fD) w3 vu x3 nu (by omega) cap_cap (by omega) (fun _ => ⟨rfl, ?_⟩) (fun m7 g7 f7 => k242 m7 ⟨by rw [← eu]; exact g7, hcs.2.1.tr (fD.c.tr f7).n, hcs.2.2.c (fD.c.tr f7)⟩)
      simpa [nTrn] using g6
  have k117 : ∀ ν, CS α tl w t μ ν (tgF α w (tgA s a b)) (q - p) T3 → K_X12_bySign_117 G l (d + 4) PV' S f e p q s X ν := by
    intro ν hcs
    apply B_X12_bySign_117
    refine ⟨fun y => k151 ν ?_, fun y => s_mHidden hw (hR.kept hcs.2.1.s) hcs.2.2 hf.1 hf.2.1 hf.2.2 (fun r ν1 f1 hr => ?_)⟩
    · rw [← hT4, mgi_0 (fun q => y ((sgb 3 (by omega) (by omega)).mpr q))]; exact hcs
    · have c1 : CS α tl w t μ ν1 (tgF α w (tgA s a b)) (q - p) T3 := ⟨hcs.1.kT f1, hcs.2.1.tr f1.n, hcs.2.2.kT f1⟩
      refine ⟨fun z => k151 ν1 ?_, fun z => s_spread (p := True) (y := 25) (by decide) (by omega) (by omega) (by omega) hm w2 x2 c1 (fun ν2 c2 => k151 ν2 ?_)⟩
      · rw [← hT4, ind_f ((bit0 hr).mp z), Int.mul_zero, mg_none rfl]; exact c1
      · rw [← hT4, mgi_1 ((sgb 3 (by omega) (by omega)).mp y), ind_t ((bitne hr).mp z)]; exact c2
  have k82 : ∀ ν, CS α tl w t μ ν (tgF α w (tgA s a b)) (q - p) T2 → K_X12_bySign_82 G l (d + 4) PV' S f e p q s X ν := by
    intro ν hcs
    apply B_X12_bySign_82
    refine ⟨fun y => k117 ν ?_, fun y => s_mTails hw (hR.kept hcs.2.1.s) hcs.2.2 hf.1 hf.2.1 hf.2.2 (fun r hr => ⟨fun z => k117 ν ?_, fun z => s_spread (p := True) (y := 23) (by decide) (by omega) (by omega) (by omega) hm w1 x1 hcs (fun ν2 c2 => k117 ν2 ?_)⟩)⟩
    · rw [← hT3, mgi_0 (fun q => y ((sgb 2 (by omega) (by omega)).mpr q))]; exact hcs
    · rw [← hT3, ind_f ((bit0 hr).mp z), Int.mul_zero, mg_none rfl]; exact hcs
    · rw [← hT3, mgi_1 ((sgb 2 (by omega) (by omega)).mp y), ind_t ((bitne hr).mp z)]; exact c2
  have k47 : ∀ ν, CS α tl w t μ ν (tgF α w (tgA s a b)) (q - p) T1 → K_X12_bySign_47 G l (d + 4) PV' S f e p q s X ν := by
    intro ν hcs
    apply B_X12_bySign_47
    refine ⟨fun y => k82 ν ?_, fun y => s_mHeads hw (hR.kept hcs.2.1.s) hcs.2.2 hf.1 hf.2.1 hf.2.2 (fun r hr => ⟨fun z => k82 ν ?_, fun z => s_spread (p := True) (y := 24) (by decide) (by omega) (by omega) (by omega) hm w0 x0 hcs (fun ν2 c2 => k82 ν2 ?_)⟩)⟩
    · rw [← hT2, mgi_0 (fun q => y ((sgb 1 (by omega) (by omega)).mpr q))]; exact hcs
    · rw [← hT2, ind_f ((bit0 hr).mp z), Int.mul_zero, mg_none rfl]; exact hcs
    · rw [← hT2, mgi_1 ((sgb 1 (by omega) (by omega)).mp y), ind_t ((bitne hr).mp z)]; exact c2
  apply E_X12_bySign
  rw [z1, hX]
  have c0 : CS α tl w t μ μ (tgF α w (tgA s a b)) (q - p) T := ⟨hC, FmN.rf, hF⟩
  refine ⟨by omega, by omega, fun y => k47 μ ?_, fun y => s_mShuffled hw hR hF hf.1 hf.2.1 hf.2.2 (fun r ν1 f1 hr => ?_)⟩
  · rw [← hT1, mgi_0 (fun q => y ((sgb 0 (by omega) (by omega)).mpr q))]; exact c0
  · have c1 : CS α tl w t μ ν1 (tgF α w (tgA s a b)) (q - p) T := ⟨hC.kT f1, f1.n, hF.kT f1⟩
    refine ⟨fun z => k47 ν1 ?_, fun z => s_spread (p := True) (y := 30) (by decide) (by omega) (by omega) (by omega) hm hT hTn c1 (fun ν2 c2 => k47 ν2 ?_)⟩
    · rw [← hT1, ind_f ((bit0 hr).mp z), Int.mul_zero, mg_none rfl]; exact c1
    · rw [← hT1, mgi_1 ((sgb 0 (by omega) (by omega)).mp y), ind_t ((bitne hr).mp z)]; exact c2
end SpecMBy
