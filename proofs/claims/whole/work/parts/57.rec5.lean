/-! Reader: what is put in; pieces; all of them -/
section SpecRec5
variable {G : xG} {l : Launch} {μ ν ν' α : xMem} {P : Int → xMem → Prop} {PV' : xMem → Prop} {tl w t : Int}
theorem KC_putIn (hD : wfD α) (M : Nat) (ih : cl_KC G l α tl w t M) {D' : Nat} (hDp : 2 * M ≤ D') {s i j a b dp pl S rd f e y : Int} (hE : cl_Env α tl w t μ) (hs : s = 0 ∨ s = 1) (hi : 0 ≤ i ∧ i + 2 ≤ j) (hj : j < α 87 tl) (ha : 0 ≤ a ∧ a < b) (hb : b ≤ α 77 w) (hdp : 0 ≤ dp ∧ dp + (M + 1 : Nat) ≤ 40) (hM : 2 * (j - i) = (M + 1 : Nat))
    (hpl : (pl = 7 ∧ S = j - 1 ∧ rd = j ∧ f = i ∧ e = j - 2 ∧ y = 26) ∨ (pl = 8 ∧ S = i + 1 ∧ rd = i ∧ f = i + 2 ∧ e = j ∧ y = 20)) {T : Tri} (hT : vW (j - i + 1) T) (hB : BS (Orc α tl w t) (pc (2 + s) i j a b) (M + 1 : Nat) μ ν T)
    (h : ∀ ν', BS (Orc α tl w t) (pc (2 + s) i j a b) (M + 1 : Nat) μ ν' (mgL T (oArdP (Orc α tl w t) (RV (Orc α tl w t)) s a b y S rd f e (b - 1 - (a + 1)).toNat)) → PV' ν') : CV G l (D' + 7) mX8_addPutIn [xr G 26, xi s, xi i, xi j, xi a, xi b, xi pl, xi dp] ν PV' := by
  have ht := hE.2.2.2.2.1.2.1
  have hv := hE.2.2.2.2.2.1.2.1
  have hl := (hE.1.2 w hv.1 hv.2).1
  have hO := Orc_ok (tl := tl) (t := t) hE.1 hv
  have hOl : (Orc α tl w t).2.2.2.2 = α 77 w := rfl
  have ho : okP (2 + s) i j a b := ⟨by omega, by omega, by omega⟩
  have hm : ms (2 + s) i j = (M + 1 : Nat) := by rw [ms_p hs]; exact hM
  have hno : noP ((M + 1 : Nat) - 1) (pc (2 + s) i j a b) := own_no ho hm
  have hpb := pc_b ho
  have eM : (((M + 1 : Nat) : Int) - 1) = (M : Nat) := by omega
  have hfe : 0 ≤ f ∧ f ≤ e + 0 ∧ e ≤ 7 ∧ e - f = j - i - 2 ∧ e < α 87 tl ∧ 0 ≤ rd ∧ rd < α 87 tl ∧ 0 ≤ S ∧ S ≤ 7 ∧ 1 ≤ y ∧ y ≤ 31 := by omega
  have vR : ∀ p q, 0 ≤ p → q ≤ b → vW (j - i + 1 - 2) (RV (Orc α tl w t) s f e p q) := fun p q hp hq => by
    have := v_RV hO (s := s) (i := f) (j := e) (a := p) (b := q) hfe.1 hfe.2.2.1 hp (by rw [hOl]; omega)
    rw [show j - i + 1 - 2 = e - f + 1 by omega]
    exact this
  have vQ : ∀ (p : Int) (n : Nat), a < p → p < b - n → p - a ≤ 9 → vL (j - i + 1) (oArdQ (Orc α tl w t) (RV (Orc α tl w t)) s a b y S rd f e p n) := fun p n hp hn h9 => v_ardQ hO (by omega) (by omega) (by omega) (by omega) (fun q h1 h2 => vR p q (by omega) (by omega)) n hn
  have vP : ∀ (n : Nat), a < b - 1 - n → vL (j - i + 1) (oArdP (Orc α tl w t) (RV (Orc α tl w t)) s a b y S rd f e n) := fun n hn => v_ardP hO (by omega) (by omega) (by omega) (by omega) (fun p q h1 h2 h3 => vR p q (by omega) (by omega)) n hn
  have main : ∀ (n : Nat) (p : Int) (ν : xMem) (T : Tri), a < p → p + n = b - 1 ∨ (n = 0 ∧ b - 1 ≤ p ∧ p ≤ 11) → BS (Orc α tl w t) (pc (2 + s) i j a b) (M + 1 : Nat) μ ν T → vW (j - i + 1) T → (∀ ν', BS (Orc α tl w t) (pc (2 + s) i j a b) (M + 1 : Nat) μ ν' (mgL T (oArdP (Orc α tl w t) (RV (Orc α tl w t)) s a b y S rd f e n)) → PV' ν') → K_X8_addPutIn_70 G l (D' + 7) PV' s a b pl dp (pc (2 + s) i j a b) rd f e p ν := by
    intro n
    induction n with
    | zero =>
      intro p ν T hp0 hp hB hT h
      apply B_X8_addPutIn_70
      exact ⟨by omega, by omega, fun _ => h ν hB, fun z => by omega⟩
    | succ n ihn =>
      intro p ν T hp0 hp hB hT h
      have ep : b - 1 - ((n + 1 : Nat) : Int) = p := by omega
      apply B_X8_addPutIn_70
      refine ⟨by omega, by omega, fun z => by omega, fun z => s_hasEnough (hE.kept hB.1).2.2.2.2.2.2 (by omega) (hT.T (by omega)) hB.2.2.2.2.2.1 (fun r hr => ⟨fun r0 => h ν (hB.more ((bitne hr).mp r0) (vP (n + 1) (by omega))), fun r0 => ?_⟩)⟩
      rw [oArdP, ep] at h
      have inner : ∀ (n2 : Nat) (q : Int) (ν : xMem) (T : Tri), q + n2 = b → p < q → BS (Orc α tl w t) (pc (2 + s) i j a b) (M + 1 : Nat) μ ν T → vW (j - i + 1) T → (∀ ν', BS (Orc α tl w t) (pc (2 + s) i j a b) (M + 1 : Nat) μ ν' (mgL (mgL T (oArdQ (Orc α tl w t) (RV (Orc α tl w t)) s a b y S rd f e p n2)) (oArdP (Orc α tl w t) (RV (Orc α tl w t)) s a b y S rd f e n)) → PV' ν') → K_X8_addPutIn_97 G l (D' + 7) PV' s a b pl dp (pc (2 + s) i j a b) rd f e p q ν := by
        intro n2
        induction n2 with
        | zero =>
          intro q ν T hq hq0 hB hT h
          apply B_X8_addPutIn_97
          exact ⟨by omega, by omega, fun _ => ihn (p + 1) ν T (by omega) (by omega) hB hT h, fun z => by omega⟩
        | succ n2 ih2 =>
          intro q ν T hq hq0 hB hT h
          have eq : b - ((n2 + 1 : Nat) : Int) = q := by omega
          obtain ⟨h1, h2, h3, h4, h5, h6, h7⟩ := hE.kept hB.1
          apply B_X8_addPutIn_97
          refine ⟨by omega, by omega, fun z => by omega, fun _ => s_hasEnough h7 (by omega) (hT.T (by omega)) hB.2.2.2.2.2.1 (fun r hr => ⟨fun r0 => ihn (p + 1) ν _ (by omega) (by omega) (hB.more ((bitne hr).mp r0) (vQ p (n2 + 1) hp0 (by omega) (by omega))) (vW_mgL _ hT (vQ p (n2 + 1) hp0 (by omega) (by omega))) h, fun r0 => ?_⟩)⟩
          have htl : tgL (s, a, p, q, b) = (b - a) - (q - p) := rfl
          rw [oArdQ, eq, mgL_app, oArd, mgL_cons, mgL_cons, mgL_nil] at h
          have vq := vQ p (n2 + 1) hp0 (by omega) (by omega)
          rw [oArdQ, eq] at vq
          have vq1 := vq _ (List.mem_append_left _ (List.mem_cons_self ..))
          have vq2 := vq _ (List.mem_append_left _ (List.mem_cons_of_mem _ (List.mem_cons_self ..)))
          refine s_aimAt h1 h6 hs (by omega) (by rw [htl]; omega) (fun ν1 f1 hA => ?_)
          have B1 := hB.aim f1
          obtain ⟨k1, k2, k3, k4, k5, k6, k7⟩ := hE.kept B1.1
          have o1 : (Orc α tl w t).1 rd 0 0 (s, a, p, q, b) = ind (fit α (cwd α tl rd) 0 0 (tgF α w (s, a, p, q, b)) (tgL (s, a, p, q, b))) := rfl
          have o2 : (Orc α tl w t).2.1 rd 0 0 (s, a, p, q, b) = cntN α t (cwd α tl rd) (fun v => fit α v 0 0 (tgF α w (s, a, p, q, b)) (tgL (s, a, p, q, b))) (α 74 21).toNat := rfl
          have c1 := cnt_exact (α := α) (t := t) (a := cwd α tl rd) (n := tgL (s, a, p, q, b)) (F := tgF α w (s, a, p, q, b)) k3 hD
          have c0 := cntN_nn (α := α) (t := t) (a := cwd α tl rd) (p := fun v => fit α v 0 0 (tgF α w (s, a, p, q, b)) (tgL (s, a, p, q, b))) (α 74 21).toNat
          refine s_isOwn hA k1 k2 k5 (by omega) (by omega) (by omega) (fun r1 hr1 => s_countMeant hA k1 k2 k3 k4 k5 (by omega) (by omega) (by omega) ?_)
          rw [← o2] at c1 c0 ⊢
          have own := bit_ind hr1
          rw [← o1] at own
          have own01 : r1 = 0 ∨ r1 = 1 := by rw [own, o1]; exact ind_01 _
          have go : K_X8_addPutIn_171 G l (D' + 7) PV' s a b pl dp (pc (2 + s) i j a b) rd f e p q r1 ((Orc α tl w t).2.1 rd 0 0 (s, a, p, q, b)) ν1 := by
            apply B_X8_addPutIn_171
            have hI1 := B1.2.2.1
            rw [eM] at hI1
            refine (ih (D' + 6) s f e p q (dp + 1) ν1 _ (by omega) (hE.kept B1.1) B1.2.1 hI1 hs (by omega) (by omega) (by omega) (by omega) (by omega) (by omega)).1 (by omega) (fun rr ν2 hp2 => ?_)
            rw [← eM] at hp2
            obtain ⟨B2, m2, R2⟩ := B1.call hno hp2
            have p2 := vR p q (by omega) (by omega)
            have k214 : ∀ ν3 T3, BS (Orc α tl w t) (pc (2 + s) i j a b) (M + 1 : Nat) μ ν3 T3 → RD (Orc α tl w t) ((M + 1 : Nat) - 1) ν3 rr s f e p q → vW (j - i + 1) T3 → T3 = mg T ((RV (Orc α tl w t) s f e p q).1 * (Orc α tl w t).1 rd 0 0 (s, a, p, q, b), 1 + (RV (Orc α tl w t) s f e p q).2.1 + 2, nArd y S (RV (Orc α tl w t) s f e p q).2.2 (p - a) 28 rd) → K_X8_addPutIn_214 G l (D' + 7) PV' s a b pl dp (pc (2 + s) i j a b) rd f e p q ((Orc α tl w t).2.1 rd 0 0 (s, a, p, q, b)) rr ν3 := by
              intro ν3 T3 B3 R3 v3 e3
              have A3 := R3.hd B3.2.2.1
              rw [vl_r hs] at A3
              apply B_X8_addPutIn_214
              refine ⟨by omega, fun z => ih2 (q + 1) ν3 T3 (by omega) (by omega) B3 v3 ?_, fun z => s_addAround (S := S) (y := y) (hE.kept B3.1).2.2.2.2.2.2 (by omega) R3.b (R3.ne hno (by omega)) (by omega) ?_ (by omega) ?_ (by omega) (by omega) (by omega) (Or.inr rfl) (v3.T (by omega)) (p2.T (by omega)) (fun y1 => ?_) B3.2.2.2.2.2.1 A3 (fun ν4 f4 g4 => ?_)⟩
              · rw [← e3, mg_0 T3 _ (show (RV (Orc α tl w t) s f e p q).1 * (Orc α tl w t).2.1 rd 0 0 (s, a, p, q, b) = 0 by rw [show (Orc α tl w t).2.1 rd 0 0 (s, a, p, q, b) = 0 by omega, Int.mul_zero])] at h
                exact h
              · rcases hpl with q | q
                · rw [q.1, q.2.2.2.2.2]; rfl
                · rw [q.1, q.2.2.2.2.2]; rfl
              · rcases hpl with q | q
                · rw [q.1, q.2.1, q.2.2.1]; rfl
                · rw [q.1, q.2.1, q.2.2.1]; rfl
              · have q1 := p2.2 y1
                omega
              · have e1 : (Orc α tl w t).2.1 rd 0 0 (s, a, p, q, b) = 1 := by omega
                rw [← e3, e1, Int.mul_one] at h
                rw [e1, Int.mul_one] at vq2
                exact ih2 (q + 1) ν4 _ (by omega) (by omega) (B3.q hno (by omega) f4 g4) (vW_mg v3 vq2) h
            refine ⟨by omega, fun z => k214 ν2 T B2 R2 hT ?_, fun z => ?_⟩
            · rw [mg_0 T _ (show (RV (Orc α tl w t) s f e p q).1 * (Orc α tl w t).1 rd 0 0 (s, a, p, q, b) = 0 by rw [← own, z, Int.mul_zero])]
            · have A2 := R2.hd B2.2.2.1
              rw [vl_r hs] at A2
              have e1 : (Orc α tl w t).1 rd 0 0 (s, a, p, q, b) = 1 := by omega
              refine s_addAround (S := S) (y := y) (hE.kept B2.1).2.2.2.2.2.2 (by omega) R2.b (R2.ne hno (by omega)) (by omega) ?_ (by omega) ?_ (by omega) (by omega) (by omega) (Or.inl rfl) (hT.T (by omega)) (p2.T (by omega)) (fun y1 => ?_) B2.2.2.2.2.2.1 A2 (fun ν4 f4 g4 => ?_)
              · rcases hpl with q | q
                · rw [q.1, q.2.2.2.2.2]; rfl
                · rw [q.1, q.2.2.2.2.2]; rfl
              · rcases hpl with q | q
                · rw [q.1, q.2.1, q.2.2.1]; rfl
                · rw [q.1, q.2.1, q.2.2.1]; rfl
              · have q1 := p2.2 y1
                omega
              · rw [e1, Int.mul_one] at vq1
                exact k214 ν4 _ (B2.q hno (by omega) f4 g4) (R2.mon f4.mon) (vW_mg hT vq1) (by rw [e1, Int.mul_one]; rfl)
          refine ⟨fun _ => go, fun z => ⟨fun _ => go, fun z2 => ih2 (q + 1) ν1 T (by omega) (by omega) B1 hT ?_⟩⟩
          rw [mg_0 T _ (show (RV (Orc α tl w t) s f e p q).1 * (Orc α tl w t).1 rd 0 0 (s, a, p, q, b) = 0 by rw [← own, z, Int.mul_zero]), mg_0 T _ (show (RV (Orc α tl w t) s f e p q).1 * (Orc α tl w t).2.1 rd 0 0 (s, a, p, q, b) = 0 by rw [z2, Int.mul_zero])] at h
          exact h
      exact inner (n + 1) (p + 1) ν T (by omega) (by omega) hB hT (fun ν' hB' => h ν' (by rw [mgL_app]; exact hB'))
  have start : K_X8_addPutIn_70 G l (D' + 7) PV' s a b pl dp (pc (2 + s) i j a b) rd f e (a + 1) ν := main (b - 1 - (a + 1)).toNat (a + 1) ν T (by omega) (by omega) hB hT h
  apply E_X8_addPutIn
  refine s_placeOf ho ⟨by omega, fun z => ?_, fun z => ?_⟩
  · apply B_X8_addPutIn_30
    refine ⟨by omega, fun _ => ?_, fun z2 => by omega⟩
    apply B_X8_addPutIn_46
    refine ⟨by omega, fun _ => ?_, fun z2 => by omega⟩
    rcases hpl with q | ⟨q1, q2, q3, q4, q5, q6⟩
    · omega
    · rw [q3, q4, q5] at start
      exact start
  · apply B_X8_addPutIn_30
    refine ⟨by omega, fun z2 => by omega, fun _ => ?_⟩
    apply B_X8_addPutIn_46
    refine ⟨by omega, fun z2 => by omega, fun _ => ?_⟩
    rcases hpl with ⟨q1, q2, q3, q4, q5, q6⟩ | q
    · rw [q3, q4, q5] at start
      exact start
    · omega
end SpecRec5
