/-! solve -/
section Solve
variable {G : xG} {l : Launch} {d : Nat} {μ ν α m y z : xMem} {P : Int → xMem → Prop} {PV' : xMem → Prop} {N : Int}
theorem cel_inj {c k k' : Int} (h : cel α c k = cel α c k') : k = k' := by
  unfold cel at h
  split at h <;> omega
/-- a word is entered -/
def entN (α : xMem) (c w : Int) (e : Int → Int) : Nat → Int → Int
  | 0 => e
  | n + 1 => fun x => if x = cel α c n then lt α w n - 96 else entN α c w e n x
def ent (α : xMem) (c w : Int) (e : Int → Int) : Int → Int := entN α c w e (α 89 c).toNat
theorem entN_at {c w : Int} {e : Int → Int} : ∀ (n k : Nat), k < n → entN α c w e n (cel α c k) = lt α w k - 96
  | 0, k, h => by omega
  | n + 1, k, h => by
    unfold entN
    by_cases q : cel α c (k : Int) = cel α c (n : Int)
    · rw [if_pos q]
      have := cel_inj q
      rw [show (k : Int) = n by omega]
    · rw [if_neg q]
      refine entN_at n k ?_
      rcases (show k < n ∨ k = n by omega) with z | z
      · exact z
      · subst z; exact absurd rfl q
theorem entN_off {c w x : Int} {e : Int → Int} : ∀ (n : Nat), (∀ k : Nat, k < n → x ≠ cel α c k) → entN α c w e n x = e x
  | 0, _ => rfl
  | n + 1, h => by
    unfold entN
    rw [if_neg (h n (by omega))]
    exact entN_off n (fun k hk => h k (by omega))
theorem ent_at {c w k : Int} {e : Int → Int} (h0 : 0 ≤ k) (h1 : k < α 89 c) : ent α c w e (cel α c k) = lt α w k - 96 := by
  have := entN_at (α := α) (c := c) (w := w) (e := e) (α 89 c).toNat k.toNat (by omega)
  rw [show ((k.toNat : Nat) : Int) = k by omega] at this
  exact this
theorem ent_off {c w x : Int} {e : Int → Int} (h : ∀ k, 0 ≤ k → k < α 89 c → x ≠ cel α c k) : ent α c w e x = e x := entN_off _ (fun k hk => h k (by omega) (by omega))
theorem ent_ok {c w : Int} {e : Int → Int} (hW : gW α) (he : eOk e) (hw : 0 ≤ w ∧ w < α 74 20) (hl : α 77 w = α 89 c) : eOk (ent α c w e) := by
  intro x x0 x1
  rcases Classical.em (∃ k, 0 ≤ k ∧ k < α 89 c ∧ x = cel α c k) with ⟨k, k0, k1, k2⟩ | q
  · rw [k2, ent_at k0 k1]
    have := lt_b hW.1 hw k0 (show k < α 77 w by omega)
    omega
  · rw [ent_off (fun k k0 k1 k2 => q ⟨k, k0, k1, k2⟩)]
    exact he x x0 x1
/-- two lights that share a cell are one, or cross -/
theorem shared {c c' k k' : Int} (hw : wfG α) (hc : lit α c) (hc' : lit α c') (h0 : 0 ≤ k ∧ k < α 89 c) (h1 : 0 ≤ k' ∧ k' < α 89 c') (e : cel α c k = cel α c' k') : (c = c' ∧ k = k') ∨ crs α c c' k k' := by
  by_cases q : α 118 c = α 118 c'
  · left
    obtain ⟨a1, a2⟩ := hw.2.2.2 c k hc h0.1 h0.2
    obtain ⟨b1, b2⟩ := hw.2.2.2 c' k' hc' h1.1 h1.2
    have d1 := (hw.1 c hc.1 hc.2.1).2
    have ec : c = c' := by
      rcases d1 with z | z
      · have := a1 z
        have := b1 (by omega)
        rw [e] at *
        omega
      · have := a2 z
        have := b2 (by omega)
        rw [e] at *
        omega
    subst ec
    exact ⟨rfl, cel_inj e⟩
  · exact Or.inr ⟨hc, hc', q, h0, h1, e⟩
/-- what is left stays the same when the only word left is entered -/
theorem GF_ent {t c w : Int} {e : Int → Int} (hG : gG α) (hW : gW α) (hg : GF α t e c w) (hu : ∀ w', GF α t e c w' → w' = w) : ∀ c' v, GF α t (ent α c w e) c' v ↔ GF α t e c' v := by
  have hL := GF_L0 hg
  obtain ⟨lw1, lw2⟩ := L0_w hL
  have hlit := hL.1
  have pos1 : ∀ j, 0 ≤ j → j < α 89 c → 97 ≤ lt α w j := fun j j0 j1 => (lt_b hW.1 lw1 j0 (by omega)).1
  intro c' v
  constructor
  · rintro ⟨L, h1, h2, h3⟩
    refine ⟨L, fun c2 v2 q => ?_, h2, h3⟩
    obtain ⟨q1, q2, q3⟩ := h1 c2 v2 q
    refine ⟨q1, q2, fun k k0 k1 k2 => ?_⟩
    rcases Classical.em (∃ j, 0 ≤ j ∧ j < α 89 c ∧ cel α c2 k = cel α c j) with ⟨j, j0, j1, j2⟩ | q4
    · have hk := q3 k k0 k1
      rw [j2, ent_at j0 j1] at hk
      have := pos1 j j0 j1
      have hag := hL.2.2 j j0 j1 (by rw [← j2]; exact k2)
      rw [j2]
      have := hk (by omega)
      omega
    · have hk := q3 k k0 k1
      rw [ent_off (fun j j0 j1 j2 => q4 ⟨j, j0, j1, j2⟩)] at hk
      exact hk k2
  · intro q
    refine GF_max (L := GF α t e) (fun c2 v2 q2 => ?_) (fun c2 v2 q2 => GF_b q2) q
    obtain ⟨q1, q3, q4⟩ := GF_L0 q2
    refine ⟨q1, q3, fun k k0 k1 k2 => ?_⟩
    rcases Classical.em (∃ j, 0 ≤ j ∧ j < α 89 c ∧ cel α c2 k = cel α c j) with ⟨j, j0, j1, j2⟩ | q5
    · rw [j2, ent_at j0 j1]
      rcases shared hG.1 q1 hlit ⟨k0, k1⟩ ⟨j0, j1⟩ j2 with ⟨e1, e2⟩ | hc
      · subst e1; subst e2
        rw [hu v2 q2]
        omega
      · obtain ⟨x, x1, x2⟩ := GF_b q2 c k j hc
        rw [hu x x1] at x2
        omega
    · rw [ent_off (fun j j0 j1 j2 => q5 ⟨j, j0, j1, j2⟩)] at k2 ⊢
      exact q4 k k0 k1 k2
theorem ent_nx {c w c2 : Int} {e : Int → Int} (hW : gW α) (hw : 0 ≤ w ∧ w < α 74 20) (hl : α 77 w = α 89 c) (h : Nx α y (ent α c w e) c2) : Nx α y e c2 ∧ c2 ≠ c := by
  obtain ⟨h1, h2, k, k0, k1, k2⟩ := h
  rcases Classical.em (∃ j, 0 ≤ j ∧ j < α 89 c ∧ cel α c2 k = cel α c j) with ⟨j, j0, j1, j2⟩ | q
  · rw [j2, ent_at j0 j1] at k2
    have := lt_b hW.1 hw j0 (show j < α 77 w by omega)
    omega
  · rw [ent_off (fun j j0 j1 j2 => q ⟨j, j0, j1, j2⟩)] at k2
    exact ⟨⟨h1, h2, k, k0, k1, k2⟩, fun e1 => q ⟨k, k0, by rw [← e1]; exact k1, by rw [e1]⟩⟩
/-- one pass over the lights from the (16 - n)-th on -/
noncomputable def pass (α y : xMem) : Nat → (Int → Int) → (Int → Int) × Int
  | 0, e => (e, 0)
  | n + 1, e => @ite _ (Nx α y e (16 - (n + 1 : Nat))) (Classical.propDecidable _) ((pass α y n (ent α (16 - (n + 1 : Nat)) (y 59 ((16 - (n + 1 : Nat)) * 120)) e)).1, (pass α y n (ent α (16 - (n + 1 : Nat)) (y 59 ((16 - (n + 1 : Nat)) * 120)) e)).2 + 1) (pass α y n e)
theorem pass_t {n : Nat} {e : Int → Int} (h : Nx α y e (16 - (n + 1 : Nat))) : pass α y (n + 1) e = ((pass α y n (ent α (16 - (n + 1 : Nat)) (y 59 ((16 - (n + 1 : Nat)) * 120)) e)).1, (pass α y n (ent α (16 - (n + 1 : Nat)) (y 59 ((16 - (n + 1 : Nat)) * 120)) e)).2 + 1) := by
  rw [pass]; exact if_pos h
theorem pass_f {n : Nat} {e : Int → Int} (h : ¬ Nx α y e (16 - (n + 1 : Nat))) : pass α y (n + 1) e = pass α y n e := by
  rw [pass]; exact if_neg h
theorem s_enterWord {c w : Int} {e : Int → Int} (hG : gG α) (hW : gW α) (hx : xG' α z) (h52 : ∀ x, 0 ≤ x → x < 81 → z 52 x = e x) (hc : lit α c) (hw : 0 ≤ w ∧ w < α 74 20) (hl : α 77 w = α 89 c) (h : ∀ z', FrX [52] [] z z' → (∀ x, 0 ≤ x → x < 81 → z' 52 x = ent α c w e x) → PV' z') : CV G l (d + 2) mX10_enterWord [xr G 58, xi c, xi w] z PV' := by
  have e49 : z 49 c = α 89 c := by rw [hx.2.2.1, hG.2.1.1 c hc.1 hc.2.1, if_pos hc.2.2]
  have lb := (hG.1.2.1 c hc).2.2.1
  have c0 := hc.1
  have c1 := hc.2.1
  apply E_X10_enterWord
  have main : ∀ (n v : Nat) (z' : xMem), (v : Int) + n = α 89 c → FrX [52] [] z z' → (∀ x, 0 ≤ x → x < 81 → z' 52 x = entN α c w e v x) → K_X10_enterWord_2 G l (d + 2) PV' c w (v : Int) z' := by
    intro n
    induction n with
    | zero =>
      intro v z' hv fz hz
      apply B_X10_enterWord_2
      rw [fz.k 49 (by decide), e49]
      refine ⟨by omega, by omega, by omega, fun _ => h z' fz (fun x x0 x1 => ?_), fun q => by omega⟩
      rw [hz x x0 x1, ent, show (α 89 c).toNat = v by omega]
    | succ n ih =>
      intro v z' hv fz hz
      have xGz : xG' α z' := ⟨by rw [fz.k 47 (by decide)]; exact hx.1, by rw [fz.k 48 (by decide)]; exact hx.2.1, by rw [fz.k 49 (by decide)]; exact hx.2.2.1, by rw [fz.k 53 (by decide)]; exact hx.2.2.2.1, by rw [fz.k 13 (by decide)]; exact hx.2.2.2.2⟩
      have hb := cel_b hG.1 hc (show 0 ≤ (v : Int) by omega) (show (v : Int) < α 89 c by omega)
      have lbv := lt_b hW.1 hw (show 0 ≤ (v : Int) by omega) (show (v : Int) < α 77 w by omega)
      apply B_X10_enterWord_2
      rw [fz.k 49 (by decide), e49]
      refine ⟨by omega, by omega, by omega, fun q => by omega, fun _ => s_cellOf hG xGz hc (by omega) (by omega) (s_letterAt hW xGz hw (by omega) (by omega) ⟨by omega, ?_⟩)⟩
      have := ih (v + 1) (st2 z' 52 (cel α c v) (lt α w v - 97 + 1)) (by omega) ((fz.tr FrX.sa).sub (by decide) (by decide)) (fun x x0 x1 => ?_)
      · rw [show ((v + 1 : Nat) : Int) = (v : Int) + 1 by omega] at this
        exact this
      · rw [st_i]
        unfold entN
        by_cases q : x = cel α c v
        · rw [if_pos q, if_pos q]; omega
        · rw [if_neg q, if_neg q]; exact hz x x0 x1
  exact main (α 89 c).toNat 0 z (by omega) FrX.rf h52
theorem one_word {t c : Int} {e : Int → Int} (hC : CL' α y (GF α t e)) (hc : 0 ≤ c ∧ c < 16) (h1 : y 60 c = 1) : GF α t e c (y 59 (c * 120)) ∧ ∀ w', GF α t e c w' → w' = y 59 (c * 120) := by
  obtain ⟨a1, a2⟩ := hC c hc.1 hc.2
  refine ⟨(a2 _).mp ⟨0, Int.le_refl _, by omega, by rw [Int.add_zero]⟩, fun w' q => ?_⟩
  obtain ⟨i, i0, i1, i2⟩ := (a2 w').mpr q
  have : i = 0 := by omega
  subst this
  rw [Int.add_zero] at i2
  exact i2.symm
theorem CL'.ent {t c : Int} {e : Int → Int} (hG : gG α) (hW : gW α) (hC : CL' α y (GF α t e)) (hc : 0 ≤ c ∧ c < 16) (h1 : y 60 c = 1) : CL' α y (GF α t (ent α c (y 59 (c * 120)) e)) := by
  obtain ⟨g1, g2⟩ := one_word hC hc h1
  intro c' c0 c1
  obtain ⟨a1, a2⟩ := hC c' c0 c1
  exact ⟨a1, fun w => (a2 w).trans (GF_ent hG hW g1 g2 c' w).symm⟩
theorem s_enterAll {t : Int} {e : Int → Int} (hG : gG α) (hW : gW α) (hx : xG' α y) (hC : CL' α y (GF α t e)) (h52 : ∀ x, 0 ≤ x → x < 81 → y 52 x = e x) (he : eOk e)
    (h : ∀ y', FrX [52] [] y y' → (∀ x, 0 ≤ x → x < 81 → y' 52 x = (pass α y 16 e).1 x) → eOk (pass α y 16 e).1 → iR (pass α y 16 e).2 → P (pass α y 16 e).2 y') : CI G l (d + 3) mX10_enterAll [xr G 58] y P := by
  apply E_X10_enterAll
  have main : ∀ (n : Nat) (r : Int) (z : xMem) (e' : Int → Int), n ≤ 16 → 0 ≤ r → r + n ≤ 16 → FrX [52] [] y z → (∀ x, 0 ≤ x → x < 81 → z 52 x = e' x) → eOk e' → CL' α y (GF α t e') → (∀ y', FrX [52] [] y y' → (∀ x, 0 ≤ x → x < 81 → y' 52 x = (pass α y n e').1 x) → eOk (pass α y n e').1 → (0 ≤ (pass α y n e').2 ∧ (pass α y n e').2 ≤ n) → P (r + (pass α y n e').2) y') → K_X10_enterAll_4 G l (d + 3) P r (16 - (n : Int)) z := by
    intro n
    induction n with
    | zero =>
      intro r z e' hn r0 rb fz hz he' hC' hP
      have := hP z fz hz he' (by simp [pass])
      simp only [pass, Int.add_zero] at this
      apply B_X10_enterAll_4
      exact ⟨by omega, fun _ => ⟨by omega, this⟩, fun q => by omega⟩
    | succ n ih =>
      intro r z e' hn r0 rb fz hz he' hC' hP
      have xGz : xG' α z := ⟨by rw [fz.k 47 (by decide)]; exact hx.1, by rw [fz.k 48 (by decide)]; exact hx.2.1, by rw [fz.k 49 (by decide)]; exact hx.2.2.1, by rw [fz.k 53 (by decide)]; exact hx.2.2.2.1, by rw [fz.k 13 (by decide)]; exact hx.2.2.2.2⟩
      have e60 : z 60 = y 60 := fz.k 60 (by decide)
      have e59 : z 59 = y 59 := fz.k 59 (by decide)
      have hc16 : 0 ≤ (16 : Int) - ((n + 1 : Nat) : Int) ∧ (16 : Int) - ((n + 1 : Nat) : Int) < 16 := by omega
      have nx1 : (16 : Int) - ((n + 1 : Nat) : Int) + 1 = 16 - (n : Int) := by omega
      apply B_X10_enterAll_4
      rw [nx1]
      refine ⟨by omega, fun q => by omega, fun _ => s_isNext hG xGz hC' e60 hz he' hc16 (fun r5 g5 => ⟨fun q => ?_, fun q => ?_⟩)⟩
      · have nn := (bit0 g5).mp q
        rw [pass_f nn] at hP
        exact ih r z e' (by omega) r0 (by omega) fz hz he' hC' (fun y' a b c d' => hP y' a b c (by omega))
      · have nn := (bitne g5).mp q
        obtain ⟨g1, g2⟩ := one_word hC' hc16 nn.2.1
        obtain ⟨lw1, lw2⟩ := L0_w (GF_L0 g1)
        rw [pass_t nn] at hP
        rw [e59]
        refine ⟨by omega, s_enterWord hG hW xGz hz nn.1 lw1 lw2 (fun z' f' h' => ?_)⟩
        refine ih (r + 1) z' _ (by omega) (by omega) (by omega) ((fz.tr f').sub (by decide) (by decide)) h' (ent_ok hW he' lw1 lw2) (hC'.ent hG hW hc16 nn.2.1) (fun y' a b c d' => ?_)
        have := hP y' a b c (by simp only; omega)
        simp only at this
        rw [show r + ((pass α y n (ent α (16 - ((n + 1 : Nat) : Int)) (y 59 ((16 - ((n + 1 : Nat) : Int)) * 120)) e')).2 + 1) = r + 1 + (pass α y n (ent α (16 - ((n + 1 : Nat) : Int)) (y 59 ((16 - ((n + 1 : Nat) : Int)) * 120)) e')).2 by omega] at this
        exact this
  have := main 16 0 y e (by omega) (by omega) (by omega) FrX.rf h52 he hC (fun y' a b c d' => by
    have := h y' a b c (by omega)
    rw [Int.zero_add]
    exact this)
  exact this
def Se : List Nat := 113 :: 119 :: Sf
theorem s_mSolve {t : Int} {e : Int → Int} (hN9 : 0 ≤ N ∧ N ≤ 600) (ht : iR t) (hG : gG α) (hW : gW α) (hX : XW z) (hK : gK N z) (hx : mG α z) (h113 : ∀ x, 0 ≤ x → x < 81 → z 113 x = e x) (he : eOk e) (hC : CL' α y (GF α t e)) {Q : Int → xMem → Prop}
    (h : ∀ z', FrX Se Tf z z' → gK N z' → (∀ x, 0 ≤ x → x < 81 → z' 113 x = (pass α y 16 e).1 x) → Q (pass α y 16 e).2 z') : CI G l (d + 11) mX12_nextOf [xr G 74, xi t] z (fun r1 m2 => K_X12_solve_13 G l (d + 12) Q t 0 r1 m2) := by
  have hb := hW.1.1
  have main : ∀ (n : Nat) (r : Int) (z1 : xMem) (e' : Int → Int), n ≤ 16 → 0 ≤ r → r + n ≤ 16 → FrX Se Tf z z1 → gK N z1 → (∀ x, 0 ≤ x → x < 81 → z1 113 x = e' x) → eOk e' → CL' α y (GF α t e') → (∀ c, c < 16 - (n : Int) → ¬ Nx α y e' c) → (∀ z', FrX Se Tf z z' → gK N z' → (∀ x, 0 ≤ x → x < 81 → z' 113 x = (pass α y n e').1 x) → Q (r + (pass α y n e').2) z') → CI G l (d + 11) mX12_nextOf [xr G 74, xi t] z1 (fun r1 m2 => K_X12_solve_13 G l (d + 12) Q t r r1 m2) := by
    intro n
    induction n with
    | zero =>
      intro r z1 e' hn r0 rb fz kz hz he' hC' hno hQ
      refine s_nextOf (α := α) (e := e') hN9 ht hG hW (hX.kept fz (by decide)) kz (hx.kept fz (by decide)) hz he' hC' (fun r1 z3 f3 k3 t3 hr => ?_)
      have hr1 : r1 = -1 := by
        rcases hr with q | q
        · exact q.1
        · exact absurd q.1 (hno r1 (by have := q.1.1.2.1; omega))
      have := hQ z3 ((fz.tr f3).sub (by decide) (by decide)) k3 (fun x x0 x1 => by rw [f3.k 113 (by decide)]; exact hz x x0 x1)
      simp only [pass, Int.add_zero] at this
      apply B_X12_solve_13
      rw [hr1]
      exact ⟨by decide, fun _ => ⟨by omega, this⟩, fun q => absurd q (by decide)⟩
    | succ n ih =>
      intro r z1 e' hn r0 rb fz kz hz he' hC' hno hQ
      rcases Classical.em (Nx α y e' (16 - ((n + 1 : Nat) : Int))) with nn | nn
      · rw [pass_t nn] at hQ
        have hc16 : 0 ≤ (16 : Int) - ((n + 1 : Nat) : Int) ∧ (16 : Int) - ((n + 1 : Nat) : Int) < 16 := by omega
        refine s_nextOf (α := α) (e := e') hN9 ht hG hW (hX.kept fz (by decide)) kz (hx.kept fz (by decide)) hz he' hC' (fun r1 z3 f3 k3 t3 hr => ?_)
        have hr1 : r1 = 16 - ((n + 1 : Nat) : Int) := fst_u hr (Or.inr ⟨nn, hno⟩)
        obtain ⟨g1, g2⟩ := one_word hC' hc16 nn.2.1
        obtain ⟨lw1, lw2⟩ := L0_w (GF_L0 g1)
        rw [hr1]
        generalize hcc : (16 : Int) - ((n + 1 : Nat) : Int) = c at *
        have fz3 : FrX Se Tf z z3 := (fz.tr f3).sub (by decide) (by decide)
        have hx3 : mG α z3 := hx.kept fz3 (by decide)
        have lb := (hG.1.2.1 c nn.1).2.2.1
        -- enter the word
        have k44 : ∀ (j v : Nat) (z4 : xMem), (v : Int) + j = α 89 c → FrX [113] [] z3 z4 → (∀ x, 0 ≤ x → x < 81 → z4 113 x = entN α c (y 59 (c * 120)) e' v x) → K_X12_solve_44 G l (d + 12) Q t r c (y 59 (c * 120)) (v : Int) z4 := by
          intro j
          induction j with
          | zero =>
            intro v z4 hv f4 h4
            have fz4 : FrX Se Tf z z4 := (fz3.tr f4).sub (by decide) (by decide)
            apply B_X12_solve_44
            rw [f4.k 89 (by decide), hx3.2.2.2.2.2.2.k 89 (by decide) (by decide)]
            refine ⟨hc16, by omega, by omega, fun _ => ?_, fun q => by omega⟩
            have e4 : ∀ x, 0 ≤ x → x < 81 → z4 113 x = ent α c (y 59 (c * 120)) e' x := fun x x0 x1 => by rw [h4 x x0 x1, ent, show (α 89 c).toNat = v by omega]
            refine ih (r + 1) z4 _ (by omega) (by omega) (by omega) fz4 (k3.kept (MA.of f4 (by decide)) f4 (by decide)) e4 (ent_ok hW he' lw1 lw2) (hC'.ent hG hW hc16 nn.2.1) (fun c2 hc2 q2 => ?_) (fun z' a b c' => ?_)
            · obtain ⟨q3, q4⟩ := ent_nx hW lw1 lw2 q2
              exact hno c2 (by omega) q3
            · have := hQ z' a b c'
              simp only at this
              rw [show r + ((pass α y n (ent α c (y 59 (c * 120)) e')).2 + 1) = r + 1 + (pass α y n (ent α c (y 59 (c * 120)) e')).2 by omega] at this
              exact this
          | succ j ihj =>
            intro v z4 hv f4 h4
            have hx4 : mG α z4 := hx3.kept f4 (by decide)
            have e76 : z4 76 = α 76 := hx4.2.2.2.2.2.2.k 76 (by decide) (by decide)
            have hb4 := cel_b hG.1 nn.1 (show 0 ≤ (v : Int) by omega) (show (v : Int) < α 89 c by omega)
            apply B_X12_solve_44
            rw [hx4.2.2.2.2.2.2.k 89 (by decide) (by decide)]
            refine ⟨hc16, by omega, by omega, fun q => by omega, fun _ => s_mCellOf hG hx4 nn.1 (by omega) (by omega) (s_letterOf hW e76 lw1 (by omega) (by omega) ⟨by omega, ?_⟩)⟩
            have := ihj (v + 1) (st2 z4 113 (cel α c v) (lt α (y 59 (c * 120)) v - 96)) (by omega) ((f4.tr FrX.sa).sub (by decide) (by decide)) (fun x x0 x1 => ?_)
            · rw [show ((v + 1 : Nat) : Int) = (v : Int) + 1 by omega] at this
              exact this
            · rw [st_i]
              unfold entN
              by_cases q : x = cel α c v
              · rw [if_pos q, if_pos q]
              · rw [if_neg q, if_neg q]; exact h4 x x0 x1
        have k20 : ∀ (j : Nat) (v : Int), v + j = y 59 (c * 120) → 0 ≤ v → K_X12_solve_20 G l (d + 12) Q t r c v z3 := by
          intro j
          induction j with
          | zero =>
            intro v hv v0
            have ev : v = y 59 (c * 120) := by omega
            obtain ⟨b1, b2⟩ := t3 c v hc16.1 hc16.2 v0 (by omega)
            have one : z3 119 (120 * c + v) = 1 := b2.mpr (by rw [ev]; exact g1)
            apply B_X12_solve_20
            rw [one]
            refine ⟨by omega, by decide, fun _ => ?_, fun q => absurd q (by decide)⟩
            rw [ev]
            exact k44 (α 89 c).toNat 0 z3 (by omega) FrX.rf (fun x x0 x1 => by rw [f3.k 113 (by decide)]; exact hz x x0 x1)
          | succ j ihj =>
            intro v hv v0
            obtain ⟨b1, b2⟩ := t3 c v hc16.1 hc16.2 v0 (by omega)
            have zero : z3 119 (120 * c + v) = 0 := by
              rcases b1 with q | q
              · exact q
              · have := g2 v (b2.mp q); omega
            apply B_X12_solve_20
            rw [zero]
            exact ⟨by omega, by decide, fun q => absurd rfl q, fun _ => ihj (v + 1) (by omega) (by omega)⟩
        apply B_X12_solve_13
        exact ⟨by omega, fun q => by omega, fun _ => k20 (y 59 (c * 120)).toNat 0 (by omega) (by omega)⟩
      · rw [pass_f nn] at hQ
        refine ih r z1 e' (by omega) r0 (by omega) fz kz hz he' hC' (fun c hc => ?_) hQ
        rcases (show c < 16 - ((n + 1 : Nat) : Int) ∨ c = 16 - ((n + 1 : Nat) : Int) by omega) with q | q
        · exact hno c q
        · rw [q]; exact nn
  refine main 16 0 z e (by omega) (by omega) (by omega) FrX.rf hK h113 he hC (fun c hc q => by have := q.1.1; omega) (fun z' a b c => ?_)
  rw [Int.zero_add]
  exact h z' a b c
theorem op_solve (hI : INV N μ) (hN9 : 0 ≤ N ∧ N ≤ 600) {t : Int} (ht : iR t) : SIM G l (d + 60) mX11_solve mX12_solve [xi t] N μ := by
  obtain ⟨hT, hD, hO, hW, hM, hS, hC, hL, hF, hU, hR, hG, hK, hP, hN⟩ := id hI
  have hX : XW μ := ⟨hW, hM, hS, hC, hD⟩
  unfold SIM
  apply E_X11_solve
  refine s_xLeft hI hN9 ht (fun y fy gy sy by' y37 cy => ?_)
  refine s_enterAll (α := μ) (e := μ 113) hG hW (xG'.of fy (by decide)) cy (fun x x0 x1 => by rw [fy.k 52 (by decide)]; exact (hG.2.2 x x0 x1).1) (fun x x0 x1 => (hG.2.2 x x0 x1).2) (fun y' f1 e1 ok1 _ => ?_)
  have f2 : FrX [] [(74, 0)] y' (st2 y' 74 0 0) := FrX.st
  apply E_X12_solve
  generalize hz : st2 y' 74 0 0 = z0 at *
  have f02 := fy.tr (f1.tr f2)
  refine s_mSolve (α := μ) (y := y) (e := μ 113) hN9 ht hG hW (hX.kept f02 (by decide)) (hK.kept (MA.of f02 (by decide)) f02 (by decide)) (mG.of f02 (by decide)) (fun x x0 x1 => by rw [f02.k 113 (by decide)]) (fun x x0 x1 => (hG.2.2 x x0 x1).2) cy (fun z' f3 k3 e3 => ⟨rfl, ?_⟩)
  have tail := f1.tr (f2.tr f3)
  have g := fy.tr tail
  have hA : MA y z' := MA.of tail (by decide)
  refine ⟨hT.kept g (by decide), hD.kept g (by decide), hO.kept g (by decide), hW.kept g (by decide), hM.kept g (by decide), hS.kept g (by decide), hC.kept g (by decide), hL.kept g (by decide), hF.kept g (by decide), hU.kept g (by decide), hR.kept g (by decide), hG.ent g (by decide) (fun x x0 x1 => ?_), k3.le (by omega), gy.kept hA tail (by decide), ?_, ?_, ?_⟩
  · rw [e3 x x0 x1, (f2.tr f3).k 52 (by decide), e1 x x0 x1]
    exact ⟨rfl, ok1 x x0 x1⟩
  · unfold StB at *
    rw [tail.f 27 6 (by decide), tail.k 28 (by decide)]
    exact sy
  · rw [tail.f 27 6 (by decide)]; have := hN.2.1; omega
  · rw [tail.f 37 0 (by decide)]; exact y37
end Solve
