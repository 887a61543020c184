/-! the model: follow, makeRow -/
section SpecMRow
variable {G : xG} {l : Launch} {d : Nat} {μ ν α : xMem} {P : Int → xMem → Prop} {PV' : xMem → Prop} {tl w t : Int}
theorem nm_ok {T : Tri} {m : Int} (h : vW m T) (hm : m ≤ 9) : okN (nm T) ∧ (nm T).length ≤ 34 := by
  unfold nm
  split
  · exact ⟨okN_nil, by simp⟩
  · rename_i z; have := h.2 z; exact ⟨this.1, by omega⟩
theorem cs_b {T : Tri} {m : Int} (h : vW m T) (hm : m ≤ 9) : 0 ≤ cs T ∧ cs T ≤ 1000000 := by
  unfold cs
  split
  · omega
  · rename_i z; have := h.2 z; omega
theorem cap_b {T : Tri} {m : Int} (h : vW m T) : 0 ≤ cap 1000 T.1 ∧ cap 1000 T.1 ≤ 1000 ∧ (cap 1000 T.1 = 0 ↔ T.1 = 0) := by
  have := h.1
  unfold cap
  grind
theorem s_follow {f th lk m x y : Int} {A R T : Tri} (hf : 0 ≤ f ∧ f < 3960) (hth : 0 ≤ th ∧ th < 3960) (hlk : -1 ≤ lk ∧ lk ≤ 7) (hm : m ≤ 9) (hxy : x + y ≤ m) (hx1 : 1 ≤ x) (hy1 : 0 ≤ y) (hA : HdX 92 93 94 98 μ f A) (hR : HdX 95 96 97 99 μ th R) (hAv : vW x A) (hRv : vW y R) (hAz : A.1 ≠ 0) (hU : vW m (jn A lk R)) (hUn : vN m (jn A lk R)) (hC : Cu μ T) (hT : vW m T) (hTn : vN m T)
    (h : ∀ ν, FmC μ ν → Cu ν (mg T (jn A lk R)) → PV' ν) : CV G l (d + 3) mX12_follow [xr G 74, xi f, xi th, xi lk] μ PV' := by
  have wA := cap_b hAv
  have wR := cap_b hRv
  obtain ⟨a1, a2⟩ := nm_ok hAv (by omega)
  obtain ⟨r1, r2⟩ := nm_ok hRv (by omega)
  have eA : nm A = A.2.2 := by unfold nm; rw [if_neg hAz]
  apply E_X12_follow
  rw [hR.1]
  refine ⟨hth, by omega, fun z => ?_, fun z => ?_⟩
  · have hRz : R.1 ≠ 0 := fun e => z (wR.2.2.mpr e)
    have eR : nm R = R.2.2 := by unfold nm; rw [if_neg hRz]
    have eCA : cs A = A.2.1 := by unfold cs; rw [if_neg hAz]
    have eCR : cs R = R.2.1 := by unfold cs; rw [if_neg hRz]
    have bA := hAv.2 hAz
    have bR := hRv.2 hRz
    refine s_mopen (fun m1 g1 f1 => s_sayPiece hf a1 (by omega) (hA.2.2.kD f1 (by decide) (by decide)) g1 (by simp; omega) (fun m2 g2 f2 => ?_))
    have fD2 := f1.tr f2
    have k37 : ∀ m3, Dm m3 (nm A ++ nLnk lk) → FmD μ m3 → K_X12_follow_37 G l (d + 3) PV' f th m3 := by
      intro m3 g3 f3
      have ll := lnk_len (k := lk)
      apply B_X12_follow_37
      refine s_sayRow hth r1 (by omega) (hR.2.2.kD f3 (by decide) (by decide)) g3 (by simp; omega) (fun m4 g4 f4 => ⟨hf, hth, ?_⟩)
      have f5 := f3.tr f4
      have hA4 := hA.kept f5.c.n (by decide) (by decide) (by decide) (by decide)
      have hR4 := hR.kept f5.c.n (by decide) (by decide) (by decide) (by decide)
      rw [hA4.1, hR4.1]
      refine s_times (by omega) (by omega) ?_
      rw [hA4.2.1, hR4.2.1, eCA, eCR]
      have hcm := cap_mul (n := 1000) (a := A.1) (b := R.1) (by omega) hAv.1 hRv.1
      have hpr : 0 ≤ cap 1000 (cap 1000 A.1 * cap 1000 R.1) ∧ cap 1000 (cap 1000 A.1 * cap 1000 R.1) ≤ 1000 := by
        have := Int.mul_nonneg wA.1 wR.1
        unfold cap at *
        grind
      refine s_moffer (M := m) (m := m) (u := jn A lk R) hm (hC.kD f5) hT hU hTn hUn (by omega) (by rw [cap_cap]; exact hcm) (by omega) (fun _ => ⟨rfl, ?_⟩) (fun m5 c5 f6 => h m5 (f5.c.tr f6) c5)
      rw [eA, eR, List.append_assoc] at g4
      exact g4
    have g2' : Dm m2 (nm A) := by simpa using g2
    refine ⟨by omega, fun z2 => k37 m2 ?_ fD2, fun z2 => s_say (s := 27) (by decide) (by omega) g2' (by omega) (fun m3 g3 f3 => s_say (chr_word (by omega)) (by omega) g3 (by simp; omega) (fun m4 g4 f4 => k37 m4 ?_ (fD2.tr (f3.tr f4))))⟩
    · rw [show lk = -1 by omega]
      simpa [nLnk] using g2'
    · rw [nLnk, if_neg (by omega)]
      simpa using g4
  · have h9 := h μ FmC.rf
    rw [mg_0 T _ (show A.1 * R.1 = 0 by rw [wR.2.2.mp z, Int.mul_zero])] at h9
    exact h9 hC
theorem sd_pc {L s p q n : Int} (hs : s = 0 ∨ s = 1) : sdA L s (if s = 0 then p else q - n) (if s = 0 then p + n else q) = sdA L s p q ∧ sdB L s (if s = 0 then p else q - n) (if s = 0 then p + n else q) = sdA L s p q + n ∧ sdA L s (if s = 0 then p + n else p) (if s = 0 then q else q - n) = sdA L s p q + n ∧ sdB L s (if s = 0 then p + n else p) (if s = 0 then q else q - n) = sdB L s p q := by
  rcases hs with rfl | rfl <;> simp [sdA, sdB] <;> omega
theorem s_makeRow {i j p q s : Int} (hw : wfW α) (hR : MR α tl w t μ) (hs : s = 0 ∨ s = 1) (hp : 0 ≤ p ∧ p < q ∧ q ≤ α 77 w) (hij : 0 ≤ i ∧ i ≤ j ∧ j < α 87 tl)
    (hpc : ∀ k p' q', i ≤ k → k ≤ j → p ≤ p' → p' < q' → q' ≤ q → HdX 92 93 94 98 μ (mp i k p' q' s) (PV (Orc α tl w t) s i k (sdA (α 77 w) s p' q') (sdB (α 77 w) s p' q')))
    (hrow : ∀ f p' q', i < f → f ≤ j → p ≤ p' → p' < q' → q' ≤ q → HdX 95 96 97 99 μ (mp f j p' q' s) (RV (Orc α tl w t) s f j (sdA (α 77 w) s p' q') (sdB (α 77 w) s p' q')))
    (h : ∀ ν, FmX 95 96 97 99 (mp i j p q s) μ ν → HdX 95 96 97 99 ν (mp i j p q s) (RV (Orc α tl w t) s i j (sdA (α 77 w) s p q) (sdB (α 77 w) s p q)) → PV' ν) : CV G l (d + 4) mX12_makeRow [xr G 74, xi i, xi j, xi p, xi q, xi s] μ PV' := by
  have hv := hR.2.2.2.2.2.2.1
  have hO := Orc_ok (tl := tl) (t := t) hw hv
  have ht := hR.2.2.2.1
  have hl := (hw.2 w hv.1 hv.2).1
  have hn := hw.1
  obtain ⟨a, ha⟩ : ∃ a, a = sdA (α 77 w) s p q := ⟨_, rfl⟩
  obtain ⟨b, hb⟩ : ∃ b, b = sdB (α 77 w) s p q := ⟨_, rfl⟩
  rw [← ha, ← hb] at h
  have hba : b - a = q - p := by rw [ha, hb]; unfold sdA sdB; split <;> omega
  have hab : 0 ≤ a ∧ a < b ∧ b ≤ α 77 w := by rw [ha, hb]; unfold sdA sdB; split <;> omega
  have hom : okM i j p q s := ⟨by omega, by omega, hs⟩
  have hmb := mp_b hom
  have vP : ∀ k c, i ≤ k → k ≤ j → a < c → c ≤ b → vW (k - i + 1) (PV (Orc α tl w t) s i k a c) := fun k c _ _ _ _ => v_PV hO (by omega) (by omega) (by omega) (show c ≤ α 77 w by omega)
  have vR : ∀ f c, i < f → a < c → c < b → vW (j - f + 1) (RV (Orc α tl w t) s f j c b) := fun f c _ _ _ => v_RV hO (by omega) (by omega) (by omega) (show b ≤ α 77 w by omega)
  have nP : ∀ k c, i ≤ k → k ≤ j → a < c → c ≤ b → vN (k - i + 1) (PV (Orc α tl w t) s i k a c) := fun k c _ _ _ _ => n_PV hO (by omega) (by omega) (by omega) (show c ≤ α 77 w by omega)
  have nR : ∀ f c, i < f → a < c → c < b → vN (j - f + 1) (RV (Orc α tl w t) s f j c b) := fun f c _ _ _ => n_RV hO (by omega) (by omega) (by omega) (show b ≤ α 77 w by omega)
  have zR : ∀ f c, j < f → (RV (Orc α tl w t) s f j c b).1 = 0 := fun f c hf => by rw [RV_no _ (by omega)]; rfl
  have hRV : RV (Orc α tl w t) s i j a b = mgL (mg T0 (PV (Orc α tl w t) s i j a b)) (oJnK (Orc α tl w t) (PV (Orc α tl w t)) (RV (Orc α tl w t)) s i j a b (j - i).toNat) := by
    rw [RV_eq _ (by omega) (by omega) (by omega), rowEq, mgL_cons]
  have hvR : vW (j - i + 1) (RV (Orc α tl w t) s i j a b) := v_RV hO (by omega) (by omega) (by omega) (show b ≤ α 77 w by omega)
  -- one pair of offers
  have pair : ∀ k n, i ≤ k → k < j → 1 ≤ n → n < q - p → vL (j - i + 1) (oJn (Orc α tl w t) (PV (Orc α tl w t)) (RV (Orc α tl w t)) s i j a b k (a + n)) ∧ nL (j - i + 1) (oJn (Orc α tl w t) (PV (Orc α tl w t)) (RV (Orc α tl w t)) s i j a b k (a + n)) := by
    intro k n k0 k1 n0 n1
    have b1 := vP k (a + n) k0 (by omega) (by omega) (by omega)
    have b2 := vR (k + 1) (a + n) (by omega) (by omega) (by omega)
    have b3 := vR (k + 2) (a + n) (by omega) (by omega) (by omega)
    have c1 := nP k (a + n) k0 (by omega) (by omega) (by omega)
    have c2 := nR (k + 1) (a + n) (by omega) (by omega) (by omega)
    have c3 := nR (k + 2) (a + n) (by omega) (by omega) (by omega)
    refine ⟨v_jn hO (x := k - i + 1) (y := j - k) (by omega) (by omega) b1 (by rw [show j - k = j - (k + 1) + 1 by omega]; exact b2) (by rw [show j - k - 1 = j - (k + 2) + 1 by omega]; exact b3), ?_⟩
    rw [show j - i + 1 = (k - i + 1) + (j - k) by omega]
    refine n_jn (by omega) (by omega) (fun z => ?_) c1 (by rw [show j - k = j - (k + 1) + 1 by omega]; exact c2) (by rw [show j - k - 1 = j - (k + 2) + 1 by omega]; exact c3)
    by_cases c : j < k + 2
    · exact absurd (zR (k + 2) (a + n) c) z
    · omega
  have key : ∀ (K : Nat) (k : Int) (ν : xMem) (T : Tri), k + K = j → i ≤ k → Cu ν T → FmN μ ν → vW (j - i + 1) T → vN (j - i + 1) T → mgL T (oJnK (Orc α tl w t) (PV (Orc α tl w t)) (RV (Orc α tl w t)) s i j a b K) = RV (Orc α tl w t) s i j a b → K_X12_makeRow_47 G l (d + 4) PV' i j p q s (mp i j p q s) k ν := by
    intro K
    induction K with
    | zero =>
      intro k ν T hk k0 hC hf hT hTn hE
      apply B_X12_makeRow_47
      refine ⟨by omega, by omega, fun _ => ⟨hmb, ?_⟩, fun z => by omega⟩
      have e : T = RV (Orc α tl w t) s i j a b := hE
      rw [e] at hC
      exact s_keepRow (M := j - i + 1) (by omega) hmb hvR hC (fun ν2 f2 g2 => h ν2 (hf.x f2) g2)
    | succ K ih =>
      intro k ν T hk k0 hC hf hT hTn hE
      have ek : j - ((K + 1 : Nat) : Int) = k := by omega
      rw [oJnK, ek, mgL_app] at hE
      apply B_X12_makeRow_47
      refine ⟨by omega, by omega, fun z => by omega, fun _ => ?_⟩
      have inner : ∀ (N : Nat) (n : Int) (ν : xMem) (T : Tri), n + N = q - p → 1 ≤ n → Cu ν T → FmN μ ν → vW (j - i + 1) T → vN (j - i + 1) T → mgL (mgL T (oJnC (Orc α tl w t) (PV (Orc α tl w t)) (RV (Orc α tl w t)) s i j a b k N)) (oJnK (Orc α tl w t) (PV (Orc α tl w t)) (RV (Orc α tl w t)) s i j a b K) = RV (Orc α tl w t) s i j a b → K_X12_makeRow_56 G l (d + 4) PV' i j p q s (mp i j p q s) k n ν := by
        intro N
        induction N with
        | zero =>
          intro n ν T hn1 n0 hC hf hT hTn hE
          apply B_X12_makeRow_56
          exact ⟨by omega, by omega, fun _ => ih (k + 1) ν T (by omega) (by omega) hC hf hT hTn hE, fun z => by omega⟩
        | succ N ihn =>
          intro n ν T hn1 n0 hC hf hT hTn hE
          have ec : b - ((N + 1 : Nat) : Int) = a + n := by omega
          obtain ⟨pv, pn⟩ := pair k n k0 (by omega) n0 (by omega)
          rw [oJnC, ec, mgL_app, oJn, mgL_cons, mgL_cons, mgL_nil] at hE
          rw [oJn] at pv pn
          have pv1 := pv _ (List.mem_cons_self ..)
          have pv2 := pv _ (List.mem_cons_of_mem _ (List.mem_cons_self ..))
          have pn1 := pn _ (List.mem_cons_self ..)
          have pn2 := pn _ (List.mem_cons_of_mem _ (List.mem_cons_self ..))
          have vA := vP k (a + n) k0 (by omega) (by omega) (by omega)
          have vB1 := vR (k + 1) (a + n) (by omega) (by omega) (by omega)
          have vB2 := vR (k + 2) (a + n) (by omega) (by omega) (by omega)
          have z2 := zR (k + 2) (a + n)
          obtain ⟨e1, e2, e3, e4⟩ := sd_pc (L := α 77 w) (p := p) (q := q) (n := n) hs
          have hA := (hpc k (if s = 0 then p else q - n) (if s = 0 then p + n else q) k0 (by omega) (by split <;> omega) (by split <;> omega) (by split <;> omega)).kept hf (by decide) (by decide) (by decide) (by decide)
          rw [e1, e2, ← ha] at hA
          have hB : ∀ f, i < f → f ≤ j → HdX 95 96 97 99 ν (mp f j (if s = 0 then p + n else p) (if s = 0 then q else q - n) s) (RV (Orc α tl w t) s f j (a + n) b) := by
            intro f f0 f1
            have := (hrow f (if s = 0 then p + n else p) (if s = 0 then q else q - n) f0 f1 (by split <;> omega) (by split <;> omega) (by split <;> omega)).kept hf (by decide) (by decide) (by decide) (by decide)
            rw [e3, e4, ← ha, ← hb] at this
            exact this
          have B1 := hB (k + 1) (by omega) (by omega)
          generalize hAA : PV (Orc α tl w t) s i k a (a + n) = A at *
          generalize hB1 : RV (Orc α tl w t) s (k + 1) j (a + n) b = R1 at *
          have wA := cap_b vA
          have okA : okM i k (if s = 0 then p else q - n) (if s = 0 then p + n else q) s := ⟨by omega, by split <;> omega, hs⟩
          have okB : ∀ f, i < f → f ≤ j → okM f j (if s = 0 then p + n else p) (if s = 0 then q else q - n) s := fun f _ _ => ⟨by omega, by split <;> omega, hs⟩
          have sgz : A.1 = 0 → K_X12_makeRow_56 G l (d + 4) PV' i j p q s (mp i j p q s) k (n + 1) ν := by
            intro az
            refine ihn (n + 1) ν T (by omega) (by omega) hC hf hT hTn ?_
            rw [mg_0 T _ (show A.1 * R1.1 = 0 by rw [az, Int.zero_mul]), mg_0 T _ (show _ * (A.1 * _) = (0 : Int) by rw [az, Int.zero_mul, Int.mul_zero])] at hE
            exact hE
          have go : A.1 ≠ 0 → ∀ x1 x2, x1 = (if s = 0 then p + n else p) → x2 = (if s = 0 then q else q - n) → K_X12_makeRow_146 G l (d + 4) PV' i j p q s (mp i j p q s) k n (mp i k (if s = 0 then p else q - n) (if s = 0 then p + n else q) s) x1 x2 ν := by
            intro az x1 x2 hx1 hx2
            rw [← hx1, ← hx2] at B1
            apply B_X12_makeRow_146
            refine s_at (by rw [hx1, hx2]; exact okB (k + 1) (by omega) (by omega)) (s_follow (m := j - i + 1) (x := k - i + 1) (y := j - k) (mp_b okA) (mp_b (by rw [hx1, hx2]; exact okB (k + 1) (by omega) (by omega))) (by omega) (by omega) (by omega) (by omega) (by omega) hA B1 vA (by rw [show j - k = j - (k + 1) + 1 by omega]; exact vB1) az pv1 pn1 hC hT hTn (fun ν2 f2 c2 => ?_))
            have hf2 := hf.tr f2.n
            have hT2 := vW_mg hT pv1
            have hTn2 := vN_mg hT.1 pv1.1 hTn pn1
            have skip : (Orc α tl w t).2.2.2.1 (k + 1) 9 * (A.1 * (RV (Orc α tl w t) s (k + 2) j (a + n) b).1) = 0 → K_X12_makeRow_56 G l (d + 4) PV' i j p q s (mp i j p q s) k (n + 1) ν2 := by
              intro z0
              refine ihn (n + 1) ν2 _ (by omega) (by omega) c2 hf2 hT2 hTn2 ?_
              rw [mg_0 (mg T (jn A (-1) R1)) _ z0] at hE
              exact hE
            have hR2 := hR.kept hf2.s
            obtain ⟨q1, q2, q3⟩ := hR2.2.2.2.2.1 (k + 1) (by omega) (by omega)
            have sb := sgn_bit (k := 9) hR2.2.1 ⟨q2, q3⟩ (by omega)
            rw [q1]
            refine ⟨by omega, by omega, fun z => skip (by rw [z2 (by omega), Int.mul_zero, Int.mul_zero]), fun z => ⟨by omega, by omega, fun y => skip ?_, fun y => ?_⟩⟩
            · rw [show (Orc α tl w t).2.2.2.1 (k + 1) 9 = 0 from ind_f (fun y2 => y (sb.mpr y2)), Int.zero_mul]
            · have sg : (Orc α tl w t).2.2.2.1 (k + 1) 9 = 1 := ind_t (sb.mp y)
              rw [sg, Int.one_mul] at hE pv2 pn2
              have B2 := (hB (k + 2) (by omega) (by omega)).kept f2.n (by decide) (by decide) (by decide) (by decide)
              rw [← hx1, ← hx2] at B2
              refine s_at (by rw [hx1, hx2]; exact okB (k + 2) (by omega) (by omega)) (s_follow (m := j - i + 1) (x := k - i + 1) (y := j - k - 1) (mp_b okA) (mp_b (by rw [hx1, hx2]; exact okB (k + 2) (by omega) (by omega))) (by omega) (by omega) (by omega) (by omega) (by omega) (hA.kept f2.n (by decide) (by decide) (by decide) (by decide)) B2 vA (by rw [show j - k - 1 = j - (k + 2) + 1 by omega]; exact vB2) az pv2 pn2 c2 hT2 hTn2 (fun ν3 f3 c3 => ihn (n + 1) ν3 _ (by omega) (by omega) c3 (hf2.tr f3.n) (vW_mg hT2 pv2) (vN_mg hT2.1 pv2.1 hTn2 pn2) hE))
          have k101 : K_X12_makeRow_101 G l (d + 4) PV' i j p q s (mp i j p q s) k n (mp i k (if s = 0 then p else q - n) (if s = 0 then p + n else q) s) ν := by
            apply B_X12_makeRow_101
            rw [hA.1]
            refine ⟨mp_b okA, by omega, fun z => ⟨by omega, fun z2 => ?_, fun z2 => ?_⟩, fun z => sgz (wA.2.2.mp z)⟩
            · apply B_X12_makeRow_129
              exact ⟨by omega, fun _ => go (fun e => z (wA.2.2.mpr e)) _ _ (by rw [if_neg z2]) (by rw [if_neg z2]), fun y => absurd y z2⟩
            · apply B_X12_makeRow_129
              exact ⟨by omega, fun y => absurd z2 y, fun _ => go (fun e => z (wA.2.2.mpr e)) _ _ (by rw [if_pos z2]) (by rw [if_pos z2])⟩
          apply B_X12_makeRow_56
          refine ⟨by omega, by omega, fun z => by omega, fun _ => ⟨by omega, fun z => ?_, fun z => ?_⟩⟩
          · rw [if_neg z, if_neg z] at k101 okA
            exact s_at okA k101
          · rw [if_pos z, if_pos z] at k101 okA
            exact s_at okA k101
      exact inner (q - p - 1).toNat 1 ν T (by omega) (by omega) hC hf hT hTn (by rw [show (q - p - 1).toNat = (b - (a + 1)).toNat by omega]; exact hE)
  have hW := hpc j p q (by omega) (by omega) (by omega) (by omega) (by omega)
  rw [← ha, ← hb] at hW
  have vW0 := vP j b (by omega) (by omega) (by omega) (by omega)
  have nW0 := nP j b (by omega) (by omega) (by omega) (by omega)
  have wW := cap_b vW0
  have wc := cs_b vW0 (by omega)
  obtain ⟨a1, a2⟩ := nm_ok vW0 (by omega)
  apply E_X12_makeRow
  refine s_clear (fun ν0 g0 f0 => s_at hom (s_mopen (fun m1 g1 f1 => s_sayPiece hmb a1 (by omega) ((hW.kept f0.n (by decide) (by decide) (by decide) (by decide)).2.2.kD f1 (by decide) (by decide)) g1 (by simp; omega) (fun m2 g2 f2 => ⟨hmb, ?_⟩))))
  have fC := f0.tr (f1.tr f2).c
  have hW2 := hW.kept fC.n (by decide) (by decide) (by decide) (by decide)
  rw [hW2.1, hW2.2.1]
  refine s_moffer (M := j - i + 1) (m := j - i + 1) (T := T0) (u := PV (Orc α tl w t) s i j a b) (by omega) (g0.kD (f1.tr f2)) (vW_T0 _) vW0 (vN_T0 _) nW0 (by omega) cap_cap (by omega) (fun z => ⟨by unfold cs; rw [if_neg z], ?_⟩) (fun m3 c3 f3 => ?_)
  · have e : nm (PV (Orc α tl w t) s i j a b) = (PV (Orc α tl w t) s i j a b).2.2 := by unfold nm; rw [if_neg z]
    rw [e] at g2
    simpa using g2
  · exact key (j - i).toNat i m3 _ (by omega) (by omega) c3 (fC.tr f3).n (vW_mg (vW_T0 _) vW0) (vN_mg (vW_T0 1).1 vW0.1 (vN_T0 _) nW0) hRV.symm
end SpecMRow
