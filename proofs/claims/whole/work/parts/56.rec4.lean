/-! Reader: rows and pieces -/
section SpecRec4
variable {G : xG} {l : Launch} {μ ν ν' α : xMem} {P : Int → xMem → Prop} {PV' : xMem → Prop} {tl w t : Int}
/-- calls of rows and pieces of a measure up to M -/
def cl_KC (G : xG) (l : Launch) (α : xMem) (tl w t : Int) (M : Nat) : Prop := ∀ (D : Nat) (s i j a b dp : Int) (μ : xMem) (P : Int → xMem → Prop), 2 * M + 6 ≤ D → cl_Env α tl w t μ → StB μ → Inv (Orc α tl w t) M μ → (s = 0 ∨ s = 1) → (0 ≤ i ∧ i ≤ 9) → (-9 ≤ j ∧ j < α 87 tl) → (0 ≤ a ∧ a ≤ 10) → (0 ≤ b ∧ b ≤ α 77 w) → 0 ≤ dp → dp + M ≤ 40 →
  (2 * (j - i) + 1 ≤ M → (∀ r ν, Pst (Orc α tl w t) M μ r ν s i j a b → P r ν) → CI G l D mX8_rowOf [xr G 26, xi s, xi i, xi j, xi a, xi b, xi dp] μ P) ∧
  (2 * (j - i) ≤ M → (∀ r ν, Pst (Orc α tl w t) M μ r ν (2 + s) i j a b → P r ν) → CI G l D mX8_pieceOf [xr G 26, xi s, xi i, xi j, xi a, xi b, xi dp] μ P)
theorem Pst_no {M tb i j a b : Int} (hI : Inv (Orc α tl w t) M μ) (hS : StB μ) (h : vl (Orc α tl w t) tb i j a b = T0) : Pst (Orc α tl w t) M μ 7921 μ tb i j a b := ⟨FrR.rf, fun _ _ => sm.rf, fun _ h => h, hI, hS, Or.inl ⟨rfl, h⟩⟩
theorem Pst_op {M tb i j a b : Int} (hI : Inv (Orc α tl w t) M μ) (hS : StB μ) (ho : okP tb i j a b) (hM : ms tb i j ≤ M) (h : μ 28 (pc tb i j a b) = μ 27 6) : Pst (Orc α tl w t) M μ (pc tb i j a b) μ tb i j a b := ⟨FrR.rf, fun _ _ => sm.rf, fun _ h => h, hI, hS, Or.inr ⟨rfl, ho, hM, h⟩⟩
theorem Pst.up {M N r tb i j a b : Int} (h : Pst (Orc α tl w t) N μ r ν tb i j a b) (hn : N ≤ M) (hI : Inv (Orc α tl w t) M μ) : Pst (Orc α tl w t) M μ r ν tb i j a b := by
  obtain ⟨h1, h2, h3, h4, h5, h6⟩ := h
  refine ⟨h1, fun q hq => h2 q (hq.le hn), h3, ⟨h4.1, fun tb' i' j' a' b' z1 z2 z3 => ?_⟩, h5, ?_⟩
  · by_cases c : ms tb' i' j' ≤ N
    · exact h4.2 _ _ _ _ _ z1 c z3
    · have hs := h2 (pc tb' i' j' a' b') (fun tb i j a b y1 y2 e => by
        obtain ⟨e1, e2, e3, -, -⟩ := pc_inj z1 y1 e
        rw [e1, e2, e3] at c
        omega)
      rw [hs.1, h1.st6] at z3
      exact (hI.2 _ _ _ _ _ z1 z2 z3).sm h1 hs
  · rcases h6 with e | ⟨e1, e2, e3, e4⟩
    · exact Or.inl e
    · exact Or.inr ⟨e1, e2, by omega, e4⟩
theorem KC_row (hD : wfD α) (M : Nat) (ih : cl_KC G l α tl w t M) {D' : Nat} (hDp : 2 * M ≤ D') {s i j a b dp : Int} (hE : cl_Env α tl w t μ) (hS : StB μ) (hI : Inv (Orc α tl w t) (M + 1 : Nat) μ) (hs : s = 0 ∨ s = 1) (hi : 0 ≤ i ∧ i ≤ j) (hj : j < α 87 tl) (ha : 0 ≤ a ∧ a < b) (hb : b ≤ α 77 w) (hdp : 0 ≤ dp ∧ dp + (M + 1 : Nat) ≤ 40) (hM : 2 * (j - i) + 1 = (M + 1 : Nat)) (h : ∀ r ν, Pst (Orc α tl w t) (M + 1 : Nat) μ r ν s i j a b → P r ν) : CI G l (D' + 8) mX8_rowOf [xr G 26, xi s, xi i, xi j, xi a, xi b, xi dp] μ P := by
  have ht := hE.2.2.2.2.1.2.1
  have hv := hE.2.2.2.2.2.1.2.1
  have hl := (hE.1.2 w hv.1 hv.2).1
  have hO := Orc_ok (tl := tl) (t := t) hE.1 hv
  have hOl : (Orc α tl w t).2.2.2.2 = α 77 w := rfl
  have ho : okP s i j a b := ⟨by omega, by omega, by omega⟩
  have hm : ms s i j = (M + 1 : Nat) := by rw [ms_r hs]; exact hM
  have hno : noP ((M + 1 : Nat) - 1) (pc s i j a b) := own_no ho hm
  have hpb := pc_b ho
  have eM : (((M + 1 : Nat) : Int) - 1) = (M : Nat) := by omega
  have req := RV_eq (Orc α tl w t) (s := s) hi.2 (by omega) ha.2
  unfold rowEq at req
  rw [mgL_cons] at req
  have vP : ∀ k c, k ≤ 7 → c ≤ b → vW (k - i + 1) (PV (Orc α tl w t) s i k a c) := fun k c hk hc => v_PV hO hi.1 hk ha.1 (by rw [hOl]; omega)
  have vR : ∀ i' c, 0 ≤ i' → 0 ≤ c → vW (j - i' + 1) (RV (Orc α tl w t) s i' j c b) := fun i' c hi' hc => v_RV hO hi' (by omega) hc (by rw [hOl]; omega)
  have vC : ∀ (k : Int) (n : Nat), i ≤ k → k < j → a < b - n → vL (j - i + 1) (oJnC (Orc α tl w t) (PV (Orc α tl w t)) (RV (Orc α tl w t)) s i j a b k n) := by
    intro k n hk hkj
    induction n with
    | zero => intro _; exact vL_nil
    | succ n ih2 =>
      intro hn
      refine vL_app (v_jn hO (x := k - i + 1) (y := j - (k + 1) + 1) (by omega) (by omega) (vP k _ (by omega) (by omega)) (vR _ _ (by omega) (by omega)) ?_) (ih2 (by omega))
      rw [show j - (k + 1) + 1 - 1 = j - (k + 2) + 1 by omega]
      exact vR _ _ (by omega) (by omega)
  have vK : ∀ n : Nat, (n : Int) ≤ j - i → vL (j - i + 1) (oJnK (Orc α tl w t) (PV (Orc α tl w t)) (RV (Orc α tl w t)) s i j a b n) := by
    intro n
    induction n with
    | zero => intro _; exact vL_nil
    | succ n ih2 =>
      intro hn
      exact vL_app (vC _ _ (by omega) (by omega) (by omega)) (ih2 (by omega))
  have fin : ∀ ν, BS (Orc α tl w t) (pc s i j a b) (M + 1 : Nat) μ ν (RV (Orc α tl w t) s i j a b) → P (pc s i j a b) ν := by
    intro ν hB
    refine h _ _ (BS.fin ho hm hI ?_)
    rw [vl_r hs]
    exact hB
  have mbp : ∀ k, i ≤ k → k < α 87 tl → (i ≠ k ∧ (∀ pl, 0 ≤ pl → pl < 7 → ¬ isSg α t (cwd α tl i) pl ∧ ¬ isSg α t (cwd α tl k) pl) ∧ (2 ≤ k - i → ¬ isSg α t (cwd α tl (k - 1)) 7 ∧ ¬ isSg α t (cwd α tl (i + 1)) 8)) → ∀ c, a < c → PV (Orc α tl w t) s i k a c = T0 := by
    intro k hk hk2 hz c hc
    rw [PV_eq (Orc α tl w t) hk (by omega) hc]
    exact no_piece hz.1 hz.2.1 hz.2.2
  have main : ∀ (n : Nat) (k : Int) (ν : xMem) (T : Tri), k + n = j → i ≤ k → BS (Orc α tl w t) (pc s i j a b) (M + 1 : Nat) μ ν T → vW (j - i + 1) T → mgL T (oJnK (Orc α tl w t) (PV (Orc α tl w t)) (RV (Orc α tl w t)) s i j a b n) = RV (Orc α tl w t) s i j a b → K_X8_rowOf_99 G l (D' + 8) P s i j a b dp (pc s i j a b) k ν := by
    intro n
    induction n with
    | zero =>
      intro k ν T hk hk0 hB hT he
      apply B_X8_rowOf_99
      refine ⟨by omega, by omega, fun _ => ⟨by omega, fin ν ?_⟩, fun z => by omega⟩
      rw [← he]
      exact hB
    | succ n ihn =>
      intro k ν T hk hk0 hB hT he
      have ek : j - ((n + 1 : Nat) : Int) = k := by omega
      rw [oJnK, ek, mgL_app] at he
      apply B_X8_rowOf_99
      refine ⟨by omega, by omega, fun z => by omega, fun z => s_hasEnough (hE.kept hB.1).2.2.2.2.2.2 (by omega) (hT.T (by omega)) hB.2.2.2.2.2.1 (fun r hr => ⟨fun r0 => ⟨by omega, fin ν ?_⟩, fun r0 => ?_⟩)⟩
      · rw [← he]
        exact (hB.more ((bitne hr).mp r0) (vC k _ hk0 z (by omega))).more ((bitne hr).mp r0) (vK n (by omega))
      · have inner : ∀ (n2 : Nat) (c : Int) (ν : xMem) (T : Tri), c + n2 = b → a < c → BS (Orc α tl w t) (pc s i j a b) (M + 1 : Nat) μ ν T → vW (j - i + 1) T → mgL (mgL T (oJnC (Orc α tl w t) (PV (Orc α tl w t)) (RV (Orc α tl w t)) s i j a b k n2)) (oJnK (Orc α tl w t) (PV (Orc α tl w t)) (RV (Orc α tl w t)) s i j a b n) = RV (Orc α tl w t) s i j a b → K_X8_rowOf_123 G l (D' + 8) P s i j a b dp (pc s i j a b) k c ν := by
          intro n2
          induction n2 with
          | zero =>
            intro c ν T hc hc0 hB hT he
            apply B_X8_rowOf_123
            exact ⟨by omega, by omega, fun _ => ihn (k + 1) ν T (by omega) (by omega) hB hT he, fun z => by omega⟩
          | succ n2 ih2 =>
            intro c ν T hc hc0 hB hT he
            have ec : b - ((n2 + 1 : Nat) : Int) = c := by omega
            obtain ⟨h1, h2, h3, h4, h5, h6, h7⟩ := hE.kept hB.1
            apply B_X8_rowOf_123
            refine ⟨by omega, by omega, fun z => by omega, fun _ => s_mayBePiece h5 (by omega) (fun r hr01 hr => ⟨fun r0 => ?_, fun r0 => s_hasEnough h7 (by omega) (hT.T (by omega)) hB.2.2.2.2.2.1 (fun r2 hr2 => ⟨fun z2 => ?_, fun z2 => ?_⟩)⟩)⟩
            · have hz := mbp k hk0 (by omega) (hr r0)
              rw [mgL_0 (oJnC (Orc α tl w t) (PV (Orc α tl w t)) (RV (Orc α tl w t)) s i j a b k (n2 + 1)) (jnC_0 (fun c c0 _ => by rw [hz c c0]; rfl) (n2 + 1) (by omega))] at he
              exact ihn (k + 1) ν T (by omega) (by omega) hB hT he
            · exact ihn (k + 1) ν _ (by omega) (by omega) (hB.more ((bitne hr2).mp z2) (vC k _ hk0 z (by omega))) (vW_mgL _ hT (vC k _ hk0 z (by omega))) he
            · rw [oJnC, ec, mgL_app, oJn, mgL_cons, mgL_cons, mgL_nil] at he
              have hI' := hB.2.2.1
              rw [eM] at hI'
              refine (ih (D' + 7) s i k a c (dp + 1) ν _ (by omega) (hE.kept hB.1) hB.2.1 hI' hs (by omega) (by omega) (by omega) (by omega) (by omega) (by omega)).2 (by omega) (fun rp ν1 hp => ?_)
              rw [← eM] at hp
              obtain ⟨B1, m1, R1⟩ := hB.call hno hp
              have A1 := R1.hd B1.2.2.1
              rw [vl_p hs] at A1
              have wy := A1.ways (hE.kept B1.1).2.2.2.2.2.2 ((vP k c (by omega) (by omega)).T (by omega))
              refine ⟨R1.b, by omega, fun y => ?_, fun y => ?_⟩
              · have hI1 := B1.2.2.1
                rw [eM] at hI1
                refine (ih (D' + 7) s (k + 1) j c b (dp + 1) ν1 _ (by omega) (hE.kept B1.1) B1.2.1 hI1 hs (by omega) (by omega) (by omega) (by omega) (by omega) (by omega)).1 (by omega) (fun rr ν2 hp2 => ?_)
                rw [← eM] at hp2
                obtain ⟨B2, m2, R2⟩ := B1.call hno hp2
                have R1' := R1.mon m2
                have A2 := R1'.hd B2.2.2.1
                have A3 := R2.hd B2.2.2.1
                rw [vl_p hs] at A2
                rw [vl_r hs] at A3
                have p1 := vP k c (by omega) (by omega)
                have p2 := vR (k + 1) c (by omega) (by omega)
                refine s_addJoined (hE.kept B2.1).2.2.2.2.2.2 (by omega) R1'.b R2.b (R1'.ne hno (by omega)) (R2.ne hno (by omega)) (by omega) (hT.T (by omega)) (p1.T (by omega)) (p2.T (by omega)) (fun y1 y2 => ?_) B2.2.2.2.2.2.1 A2 A3 (fun ν3 f3 g3 => ?_)
                · have q1 := p1.2 y1
                  have q2 := p2.2 y2
                  omega
                · have B3 := B2.q hno (by omega) f3 g3
                  have R3 := R1'.mon f3.mon
                  have vT3 : vW (j - i + 1) (mg T (jn (PV (Orc α tl w t) s i k a c) (-1) (RV (Orc α tl w t) s (k + 1) j c b))) := vW_mg hT (vC k (n2 + 1) hk0 z (by omega) _ (by rw [oJnC, ec]; exact List.mem_append_left _ (List.mem_cons_self ..)))
                  refine s_isSign (hE.kept B3.1).2.2.2.2.1 (by omega) (by omega) (fun r4 hr4 => ⟨fun y4 => ih2 (c + 1) ν3 _ (by omega) (by omega) B3 vT3 ?_, fun y4 => ?_⟩)
                  · rw [mg_0 (mg T _) _ (show (Orc α tl w t).2.2.2.1 (k + 1) 9 * _ = (0 : Int) by rw [show (Orc α tl w t).2.2.2.1 (k + 1) 9 = ind (isSg α t (cwd α tl (k + 1)) 9) from rfl, ind_f ((bit0 hr4).mp y4), Int.zero_mul])] at he
                    exact he
                  · have hI3 := B3.2.2.1
                    rw [eM] at hI3
                    refine (ih (D' + 7) s (k + 2) j c b (dp + 1) ν3 _ (by omega) (hE.kept B3.1) B3.2.1 hI3 hs (by omega) (by omega) (by omega) (by omega) (by omega) (by omega)).1 (by omega) (fun rr4 ν4 hp4 => ?_)
                    rw [← eM] at hp4
                    obtain ⟨B4, m4, R4⟩ := B3.call hno hp4
                    have R5 := R3.mon m4
                    have A4 := R5.hd B4.2.2.1
                    have A5 := R4.hd B4.2.2.1
                    rw [vl_p hs] at A4
                    rw [vl_r hs] at A5
                    have p3 := vR (k + 2) c (by omega) (by omega)
                    refine s_addJoined (hE.kept B4.1).2.2.2.2.2.2 (by omega) R5.b R4.b (R5.ne hno (by omega)) (R4.ne hno (by omega)) (by omega) (vT3.T (by omega)) (p1.T (by omega)) (p3.T (by omega)) (fun y1 y2 => ?_) B4.2.2.2.2.2.1 A4 A5 (fun ν5 f5 g5 => ?_)
                    · have q1 := p1.2 y1
                      have q2 := p3.2 y2
                      omega
                    · have e4 : (Orc α tl w t).2.2.2.1 (k + 1) 9 = 1 := ind_t ((bitne hr4).mp y4)
                      rw [e4, Int.one_mul] at he
                      refine ih2 (c + 1) ν5 _ (by omega) (by omega) (B4.q hno (by omega) f5 g5) (vW_mg vT3 ?_) he
                      have v6 := vC k (n2 + 1) hk0 z (by omega) _ (show ((Orc α tl w t).2.2.2.1 (k + 1) 9 * ((PV (Orc α tl w t) s i k a c).1 * (RV (Orc α tl w t) s (k + 2) j c b).1), _, _) ∈ _ by rw [oJnC, ec]; exact List.mem_append_left _ (List.mem_cons_of_mem _ (List.mem_cons_self ..)))
                      rw [e4, Int.one_mul] at v6
                      exact v6
              · have y0 := wy.2.2.1.mp y
                refine ih2 (c + 1) ν1 T (by omega) (by omega) B1 hT ?_
                rw [mg_0 _ _ (show (jn (PV (Orc α tl w t) s i k a c) (-1) (RV (Orc α tl w t) s (k + 1) j c b)).1 = 0 by show _ * _ = (0 : Int); rw [y0, Int.zero_mul]), mg_0 _ _ (show (Orc α tl w t).2.2.2.1 (k + 1) 9 * ((PV (Orc α tl w t) s i k a c).1 * (RV (Orc α tl w t) s (k + 2) j c b).1) = 0 by rw [y0, Int.zero_mul, Int.mul_zero])] at he
                exact he
        have e1 : ((b - (a + 1)).toNat : Int) = b - (a + 1) := by omega
        exact inner (b - (a + 1)).toNat (a + 1) ν T (by omega) (by omega) hB hT he
  apply E_X8_rowOf
  refine ⟨by omega, by omega, fun z => by omega, fun _ => ⟨by omega, by omega, fun z => by omega, fun _ => ⟨by omega, fun _ => s_placeOf ho (s_isOpen hS (by omega) (fun r hr => ⟨fun r0 => s_open (by omega) ?_, fun r0 => h _ _ (Pst_op hI hS ho (by omega) ((bitne hr).mp r0))⟩)), fun z => by omega⟩⟩⟩
  have B0 := BS.init (O := Orc α tl w t) (M := (M + 1 : Nat)) hE.2.2.2.2.2.2 hS hI hno (by omega)
  have h5 := (hE.kept B0.1).2.2.2.2.1
  have en : ((j - i).toNat : Int) = j - i := by omega
  refine s_mayBePiece h5 (by omega) (fun r2 hr01 hr2 => ⟨fun z2 => main (j - i).toNat i _ T0 (by omega) (by omega) B0 (vW_T0 _) ?_, fun z2 => ?_⟩)
  · rw [req, mbp j hi.2 hj (hr2 z2) b ha.2]
    rfl
  · have hI' := B0.2.2.1
    rw [eM] at hI'
    refine (ih (D' + 7) s i j a b (dp + 1) _ _ (by omega) (hE.kept B0.1) B0.2.1 hI' hs (by omega) (by omega) (by omega) (by omega) (by omega) (by omega)).2 (by omega) (fun rp ν1 hp => ?_)
    rw [← eM] at hp
    obtain ⟨B1, m1, R1⟩ := B0.call hno hp
    have A1 := R1.hd B1.2.2.1
    rw [vl_p hs] at A1
    have p1 := vP j b (by omega) (by omega)
    exact s_addAlone (hE.kept B1.1).2.2.2.2.2.2 (by omega) R1.b (R1.ne hno (by omega)) ((vW_T0 1).T (by decide)) (p1.T (by omega)) B1.2.2.2.2.2.1 A1 (fun ν3 f3 g3 => main (j - i).toNat i ν3 _ (by omega) (by omega) (B1.q hno (by omega) f3 g3) (vW_mg (vW_T0 _) p1) req.symm)
end SpecRec4
