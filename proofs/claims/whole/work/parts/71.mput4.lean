/-! the model: putIn -/
section SpecMPut4
variable {G : xG} {l : Launch} {d : Nat} {μ ν α : xMem} {P : Int → xMem → Prop} {PV' : xMem → Prop} {tl w t : Int}
theorem Aro.cg {F F' : Int → Int} {n : Int} (h : Aro μ F n) (he : ∀ m, 0 ≤ m → m < n → F m = F' m) : Aro μ F' n := ⟨h.1, h.2.1, fun m a b => by rw [← he m a b]; exact h.2.2 m a b⟩
theorem s_putIn {c y S rd f e p q s m a b : Int} {T : Tri} (hw : wfW α) (hM : wfM α) (hR : MR α tl w t μ) (hs : s = 0 ∨ s = 1) (hp : 0 ≤ p ∧ p < q ∧ q ≤ α 77 w) (ha : a = sdA (α 77 w) s p q) (hb : b = sdB (α 77 w) s p q) (hc : c = chr y) (hy : 20 ≤ y ∧ y ≤ 31) (hS : 0 ≤ S ∧ S ≤ 7) (hrd : 0 ≤ rd ∧ rd < α 87 tl) (hf : 0 ≤ f ∧ f ≤ e ∧ e ≤ 7) (hm : m = e - f + 3) (hm9 : m ≤ 9) (hC : Cu μ T) (hF : md_Run μ (tgF α w (tgA s a b)) (q - p)) (hT : vW m T) (hTn : vN m T)
    (hrow : ∀ x n, 1 ≤ x → 1 ≤ n → x + n < q - p → HdX 95 96 97 99 μ (mp f e (if s = 0 then p + x else q - x - n) ((if s = 0 then p + x else q - x - n) + n) s) (RV (Orc α tl w t) s f e (a + x) (a + x + n)))
    (h : ∀ ν, Cu ν (mgL T (oMN (Orc α tl w t) (RV (Orc α tl w t)) s a b y S rd f e (q - p - 2).toNat)) → FmN μ ν → md_Run ν (tgF α w (tgA s a b)) (q - p) → PV' ν) : CV G l (d + 4) mX12_putIn [xr G 74, xi c, xi S, xi rd, xi f, xi e, xi p, xi q, xi s] μ PV' := by
  have hv := hR.2.2.2.2.2.2.1
  have hO := Orc_ok (tl := tl) (t := t) hw hv
  have ht := hR.2.2.2.1
  have hl := (hw.2 w hv.1 hv.2).1
  have hba : b - a = q - p := by rw [ha, hb]; unfold sdA sdB; split <;> omega
  have hab : 0 ≤ a ∧ a < b ∧ b ≤ α 77 w := by rw [ha, hb]; unfold sdA sdB; split <;> omega
  have hr1 := hF.1
  apply E_X12_putIn
  have main : ∀ (j : Nat) (n : Int) (ν : xMem) (T : Tri), (n + j = q - p - 1 ∨ (j = 0 ∧ q - p - 2 < n ∧ n ≤ 12)) → 1 ≤ n → CS α tl w t μ ν (tgF α w (tgA s a b)) (q - p) T → vW m T → vN m T → (∀ ν, CS α tl w t μ ν (tgF α w (tgA s a b)) (q - p) (mgL T (oMN (Orc α tl w t) (RV (Orc α tl w t)) s a b y S rd f e j)) → PV' ν) → K_X12_putIn_3 G l (d + 4) PV' c S rd f e p q s n ν := by
    intro j
    induction j with
    | zero =>
      intro n ν T hn n1 hcs vT' nT' h
      apply B_X12_putIn_3
      rw [hcs.2.2.1]
      exact ⟨by omega, by omega, fun _ => h ν hcs, fun z => by omega⟩
    | succ j ihj =>
      intro n ν T hn n1 hcs vT' nT' h
      have en : b - a - 1 - ((j + 1 : Nat) : Int) = n := by omega
      rw [oMN, en] at h
      apply B_X12_putIn_3
      rw [hcs.2.2.1]
      refine ⟨by omega, by omega, fun z => by omega, fun _ => ?_⟩
      have inner : ∀ (k : Nat) (x : Int) (ν : xMem) (T : Tri), x + k = q - p - n → 1 ≤ x → CS α tl w t μ ν (tgF α w (tgA s a b)) (q - p) T → vW m T → vN m T → (∀ ν, CS α tl w t μ ν (tgF α w (tgA s a b)) (q - p) (mgL (mgL T (oMX (Orc α tl w t) (RV (Orc α tl w t)) s a b y S rd f e n k)) (oMN (Orc α tl w t) (RV (Orc α tl w t)) s a b y S rd f e j)) → PV' ν) → K_X12_putIn_17 G l (d + 4) PV' c S rd f e p q s n x ν := by
        intro k
        induction k with
        | zero =>
          intro x ν T hx x1 hcs vT' nT' h
          apply B_X12_putIn_17
          rw [hcs.2.2.1]
          exact ⟨by omega, by omega, fun _ => ihj (n + 1) ν T (by omega) (by omega) hcs vT' nT' h, fun z => by omega⟩
        | succ k ihk =>
          intro x ν T hx x1 hcs vT' nT' h
          have ep : b - n - ((k + 1 : Nat) : Int) = a + x := by omega
          have eq : b - ((k + 1 : Nat) : Int) = a + x + n := by omega
          rw [oMX, ep, eq, mgL_app, oArd, mgL_cons, mgL_cons, mgL_nil, show a + x - a = x by omega] at h
          have hX := (hrow x n x1 n1 (by omega)).kept hcs.2.1 (by decide) (by decide) (by decide) (by decide)
          have vr : vW (m - 2) (RV (Orc α tl w t) s f e (a + x) (a + x + n)) := by
            rw [show m - 2 = e - f + 1 by omega]
            exact v_RV hO hf.1 (by omega) (by omega) (show _ ≤ α 77 w by omega)
          have nr : vN (m - 2) (RV (Orc α tl w t) s f e (a + x) (a + x + n)) := by
            rw [show m - 2 = e - f + 1 by omega]
            exact n_RV hO hf.1 (by omega) (by omega) (show _ ≤ α 77 w by omega)
          have vA := v_ard hO (R := RV (Orc α tl w t)) (s := s) (a := a) (b := b) (y := y) (S := S) (w := rd) (f := f) (t := e) (p := a + x) (q := a + x + n) (m := m) hS (by omega) (by omega) (by omega) vr
          have nA := n_ard (O := Orc α tl w t) (R := RV (Orc α tl w t)) (s := s) (a := a) (b := b) (y := y) (S := S) (w := rd) (f := f) (t := e) (p := a + x) (q := a + x + n) (m := m) (by omega) hS (by omega) (Or.inr hy.1) (by omega) nr
          rw [oArd, show a + x - a = x by omega] at vA nA
          have va1 := vA _ (List.mem_cons_self ..)
          have va2 := vA _ (List.mem_cons_of_mem _ (List.mem_cons_self ..))
          have na1 := nA _ (List.mem_cons_self ..)
          have na2 := nA _ (List.mem_cons_of_mem _ (List.mem_cons_self ..))
          have o1 : (Orc α tl w t).1 rd 0 0 (s, a, a + x, a + x + n, b) = ind (fit α (cwd α tl rd) 0 0 (tgF α w (s, a, a + x, a + x + n, b)) (q - p - n)) := by
            show ind (fit α (cwd α tl rd) 0 0 (tgF α w (s, a, a + x, a + x + n, b)) ((b - a) - (a + x + n - (a + x)))) = _
            rw [show (b - a) - (a + x + n - (a + x)) = q - p - n by omega]
          have o2 : (Orc α tl w t).2.1 rd 0 0 (s, a, a + x, a + x + n, b) = cntN α t (cwd α tl rd) (fun v => fit α v 0 0 (tgF α w (s, a, a + x, a + x + n, b)) (q - p - n)) (α 74 21).toNat := by
            show cntN α t (cwd α tl rd) (fun v => fit α v 0 0 (tgF α w (s, a, a + x, a + x + n, b)) ((b - a) - (a + x + n - (a + x)))) (α 74 21).toNat = _
            rw [show (b - a) - (a + x + n - (a + x)) = q - p - n by omega]
          have wv := vW_mg (vW_mg vT' va1) va2
          have wn := vN_mg (vW_mg vT' va1).1 va2.1 (vN_mg vT'.1 va1.1 nT' na1) na2
          rw [o1, o2] at h wv wn
          rw [o1] at va1 na1
          generalize hRR : RV (Orc α tl w t) s f e (a + x) (a + x + n) = R at *
          have r0 := vr.1
          have wb : 0 ≤ cap 1000 R.1 ∧ cap 1000 R.1 ≤ 1000 ∧ (cap 1000 R.1 = 0 ↔ R.1 = 0) := by unfold cap; grind
          have go : ∀ s0, s0 = (if s = 0 then p + x else q - x - n) → K_X12_putIn_50 G l (d + 4) PV' c S rd f e p q s n x s0 ν := by
            intro s0 hs0
            rw [← hs0] at hX
            have hom : okM f e s0 (s0 + n) s := ⟨hf, by rw [hs0]; split <;> omega, hs⟩
            have hmb := mp_b hom
            apply B_X12_putIn_50
            refine s_at hom ⟨hmb, by rw [hX.1]; omega, fun z => ?_, fun z => ?_⟩
            · rw [hX.1] at z
              refine s_around hcs.2.2 (by omega) (fun ν1 hA f1 => ?_)
              have fN1 : FmN ν ν1 := fun k i a b => f1 k i (by omega) (by omega)
              have hF1 : md_Run ν1 (tgF α w (tgA s a b)) (q - p) := ⟨by rw [f1 74 43 (by decide) (by decide)]; exact hcs.2.2.1, hcs.2.2.2.1, fun m a b => by rw [f1 102 m (by decide) (Or.inl (by decide))]; exact hcs.2.2.2.2 m a b⟩
              have hC1 : Cu ν1 T := by
                obtain ⟨h1, h2, h3, h4⟩ := hcs.1
                exact ⟨by rw [f1 74 46 (by decide) (by decide)]; exact h1, by rw [f1 74 47 (by decide) (by decide)]; exact h2, by rw [f1 74 48 (by decide) (by decide)]; exact h3, fun k hk => by rw [f1 105 _ (by decide) (by simp)]; exact h4 k hk⟩
              have hA2 := hA.cg (F' := tgF α w (s, a, a + x, a + x + n, b)) (fun m m0 m1 => by
                unfold tgF
                simp only
                by_cases cm : m < x
                · rw [if_pos cm, if_pos (by omega), if_pos (by omega)]
                · rw [if_neg cm, if_pos (by omega), if_neg (by omega)]
                  congr 1
                  omega)
              exact s_put155 (R := R) (T := T) (m := m) hw hM (hR.kept (hcs.2.1.tr fN1).s) hA2 hc hy hS hrd hmb (by omega) (by omega) (hX.kept fN1 (by decide) (by decide) (by decide) (by decide)) vr nr (fun q => z (wb.2.2.mpr q)) hC1 vT' nT' (fun ν2 f2 g2 => ihk (x + 1) ν2 _ (by omega) (by omega) ⟨g2, (hcs.2.1.tr fN1).tr f2.n, hF1.c f2⟩ wv wn h) va1 na1
            · rw [hX.1] at z
              have rz := wb.2.2.mp z
              rw [mg_0 T _ (show R.1 * _ = (0 : Int) by rw [rz, Int.zero_mul]), mg_0 T _ (show R.1 * _ = (0 : Int) by rw [rz, Int.zero_mul])] at h
              exact ihk (x + 1) ν T (by omega) (by omega) hcs vT' nT' h
          apply B_X12_putIn_17
          rw [hcs.2.2.1]
          exact ⟨by omega, by omega, fun z => by omega, fun _ => ⟨by omega, fun z => go _ (by rw [if_neg z]), fun z => go _ (by rw [if_pos z])⟩⟩
      exact inner (j + 1) 1 ν T (by omega) (by omega) hcs vT' nT' (fun ν' hB' => h ν' (by rw [mgL_app]; exact hB'))
  exact main (q - p - 2).toNat 1 μ T (by omega) (by omega) ⟨hC, FmN.rf, hF⟩ hT hTn (fun ν g => h ν g.1 g.2.1 g.2.2)
end SpecMPut4
