/-! Reader: plays by a sign at an end; places -/
section SpecRec2
variable {G : xG} {l : Launch} {d : Nat} {μ μ' α : xMem} {P : Int → xMem → Prop} {PV' : xMem → Prop} {tl w t : Int}
theorem mgi_0 {T : Tri} {p : Prop} {n c : Int} {N : List Int} (h : ¬ p) : mg T (ind p * n, c, N) = T := mg_0 _ _ (by show ind p * n = 0; rw [ind_f h, Int.zero_mul])
theorem mgi_1 {T : Tri} {p : Prop} {n c : Int} {N : List Int} (h : p) : mg T (ind p * n, c, N) = mg T (n, c, N) := by rw [ind_t h, Int.one_mul]
theorem s_addSigned {q s a b S f e m : Int} {T : Tri} (hE : cl_Env α tl w t μ) (hq : 0 ≤ q ∧ q < 7922) (hS : 0 ≤ S ∧ S < α 87 tl) (hf : 0 ≤ f ∧ f ≤ e ∧ e < α 87 tl) (hm : m = e - f + 2) (hm9 : m ≤ 9) (hA : Aim μ (tgF α w (tgA s a b)) (b - a)) (hT : vW m T) (hH : Hd μ q T)
    (h : ∀ μ', FrQ q μ μ' → Hd μ' q (mgL T (oSgd (Orc α tl w t) s a b S f e)) → PV' μ') : CV G l (d + 5) mX8_addSigned [xr G 26, xi q, xi S, xi f, xi e] μ PV' := by
  have hO := Orc_ok (tl := tl) (t := t) hE.1 hE.2.2.2.2.2.1.2.1
  have ht := hE.2.2.2.2.1.2.1
  have hsp : ∀ (k y : Int), (1 ≤ y ∧ y ≤ 31) → vW m ((Orc α tl w t).2.2.2.1 S k * (Orc α tl w t).2.2.1 k s a b f e, 1, nSpr y S f e) := fun k y hy => v_spr hO hm (by omega) (by omega) hy
  have e0 : (Orc α tl w t).2.2.1 0 s a b f e = ind (isShf α tl (tgF α w (tgA s a b)) f e (b - a)) := rfl
  have e1 : (Orc α tl w t).2.2.1 1 s a b f e = ind (isHds α tl (tgF α w (tgA s a b)) f e (b - a)) := rfl
  have e2 : (Orc α tl w t).2.2.1 2 s a b f e = ind (isTls α tl (tgF α w (tgA s a b)) f e (b - a)) := rfl
  have e3 : (Orc α tl w t).2.2.1 3 s a b f e = ind (isHid α tl (tgF α w (tgA s a b)) f e (b - a)) := rfl
  have es : ∀ k, (Orc α tl w t).2.2.2.1 S k = ind (isSg α t (cwd α tl S) k) := fun k => rfl
  have s0 := hsp 0 30 (by omega)
  have s1 := hsp 1 24 (by omega)
  have s2 := hsp 2 23 (by omega)
  have s3 := hsp 3 25 (by omega)
  unfold oSgd at h
  rw [mgL_app, mgL_cons, mgL_cons, mgL_cons, mgL_cons, mgL_nil] at h
  rw [e0, es] at s0 h
  rw [e1, es] at s1 h
  rw [e2, es] at s2 h
  rw [e3, es] at s3 h
  simp only [es] at h
  have v1 := vW_mg hT s0
  have v2 := vW_mg v1 s1
  have v3 := vW_mg v2 s2
  have v4 := vW_mg v3 s3
  generalize hT1 : mg T (ind (isSg α t (cwd α tl S) 0) * ind (isShf α tl (tgF α w (tgA s a b)) f e (b - a)), 1, nSpr 30 S f e) = T1 at v1 v2 v3 v4 h
  generalize hT2 : mg T1 (ind (isSg α t (cwd α tl S) 1) * ind (isHds α tl (tgF α w (tgA s a b)) f e (b - a)), 1, nSpr 24 S f e) = T2 at v2 v3 v4 h
  generalize hT3 : mg T2 (ind (isSg α t (cwd α tl S) 2) * ind (isTls α tl (tgF α w (tgA s a b)) f e (b - a)), 1, nSpr 23 S f e) = T3 at v3 v4 h
  generalize hT4 : mg T3 (ind (isSg α t (cwd α tl S) 3) * ind (isHid α tl (tgF α w (tgA s a b)) f e (b - a)), 1, nSpr 25 S f e) = T4 at v4 h
  have oeq : ∀ ah be, (Orc α tl w t).1 f ah be (tgA s a b) = ind (fit α (cwd α tl f) ah be (tgF α w (tgA s a b)) (b - a)) := by
    intro ah be
    show ind (fit α (cwd α tl f) ah be (tgF α w (tgA s a b)) (tgL (tgA s a b))) = _
    rw [tgL_A]
  have meq : ∀ ah be, (Orc α tl w t).2.1 f ah be (tgA s a b) = cntN α t (cwd α tl f) (fun v => fit α v ah be (tgF α w (tgA s a b)) (b - a)) (α 74 21).toNat := by
    intro ah be
    show cntN α t (cwd α tl f) (fun v => fit α v ah be (tgF α w (tgA s a b)) (tgL (tgA s a b))) (α 74 21).toNat = _
    rw [tgL_A]
  simp only [oeq, meq] at h
  have cb : ∀ ah be, 0 ≤ cntN α t (cwd α tl f) (fun v => fit α v ah be (tgF α w (tgA s a b)) (b - a)) (α 74 21).toNat ∧ cntN α t (cwd α tl f) (fun v => fit α v ah be (tgF α w (tgA s a b)) (b - a)) (α 74 21).toNat ≤ 240 := by
    intro ah be
    have c1 := cntN_le (α := α) (t := t) (a := cwd α tl f) (p := fun v => fit α v ah be (tgF α w (tgA s a b)) (b - a)) (α 74 21).toNat
    have c2 := cntN_nn (α := α) (t := t) (a := cwd α tl f) (p := fun v => fit α v ah be (tgF α w (tgA s a b)) (b - a)) (α 74 21).toNat
    have hm1 := hE.2.2.1.1
    omega
  have i0 : ∀ p : Prop, 0 ≤ ind p := fun p => by rcases ind_01 p with h | h <;> omega
  -- the cuts
  have k206 : ∀ ν T5, FrQ q μ ν → vW m T5 → Hd ν q T5 → (f ≠ e → ∀ μ', FrQ q μ μ' → Hd μ' q T5 → PV' μ') → (f = e → ∀ μ', FrQ q μ μ' → Hd μ' q (mg (mg T5 (ind (isSg α t (cwd α tl S) 6) * ind (fit α (cwd α tl f) 0 1 (tgF α w (tgA s a b)) (b - a)), 3, nCut 22 S 28 f)) (ind (isSg α t (cwd α tl S) 6) * cntN α t (cwd α tl f) (fun v => fit α v 0 1 (tgF α w (tgA s a b)) (b - a)) (α 74 21).toNat, 2, nCut 22 S 29 f)) → PV' μ') → K_X8_addSigned_206 G l (d + 5) PV' q S f e ν := by
    intro ν T5 f0 v5 g0 hne heq
    obtain ⟨h1, h2, h3, h4, h5, h6, h7⟩ := hE.kept f0.r
    have hA' := hA.keptQ f0
    apply B_X8_addSigned_206
    refine ⟨by omega, by omega, fun z => hne z ν f0 g0, fun z => s_isSign h5 hS (by omega) (fun r hr => ⟨fun r0 => ?_, fun r0 => ?_⟩)⟩
    · have h9 := heq z ν f0
      rw [mgi_0 ((bit0 hr).mp r0), mgi_0 ((bit0 hr).mp r0)] at h9
      exact h9 g0
    · have h9 := heq z
      have hsg := (bitne hr).mp r0
      rw [mgi_1 hsg, mgi_1 hsg] at h9
      have go : ∀ x : Int, x = ind (fit α (cwd α tl f) 0 1 (tgF α w (tgA s a b)) (b - a)) → K_X8_addSigned_251 G l (d + 5) PV' q S f q 6 S f 28 x ν := by
        intro x hx
        have x0 := i0 (fit α (cwd α tl f) 0 1 (tgF α w (tgA s a b)) (b - a))
        have x1 := ind_01 (fit α (cwd α tl f) 0 1 (tgF α w (tgA s a b)) (b - a))
        apply B_X8_addSigned_251
        refine s_addCut (y := 22) h7 hq (by omega) rfl (by omega) (by omega) (by omega) (Or.inl rfl) (by omega) (v5.T hm9) g0 (fun m1 f1 g1 => ?_)
        obtain ⟨k1, k2, k3, k4, k5, k6, k7⟩ := hE.kept (f0.tr f1).r
        have vc : vW m (mg T5 (x, 1 + (if (28 : Int) = 28 then 2 else 1), nCut 22 S 28 f)) := vW_mg v5 (v_cut (by omega) (by omega) (by omega) (by omega) (by omega) (by omega) (by omega))
        have cb1 := cb 0 1
        refine s_countMeant (hA'.keptQ f1) k1 k2 k3 k4 k5 (by omega) (by omega) (by omega) (s_addCut (y := 22) k7 hq (by omega) rfl (by omega) (by omega) (by omega) (Or.inr rfl) (by omega) (vc.T hm9) g1 (fun m2 f2 g2 => ?_))
        rw [← hx] at h9
        exact h9 m2 (f0.tr (f1.tr f2)) g2
      exact s_isOwn hA' h1 h2 h5 (by omega) (by omega) (by omega) (fun r2 hr2 => ⟨fun z2 => go 0 (ind_f ((bit0 hr2).mp z2)).symm, fun z2 => go 1 (ind_t ((bitne hr2).mp z2)).symm⟩)
  have k140 : ∀ ν, FrQ q μ ν → Hd ν q T4 → K_X8_addSigned_140 G l (d + 5) PV' q S f e ν := by
    intro ν f0 g0
    obtain ⟨h1, h2, h3, h4, h5, h6, h7⟩ := hE.kept f0.r
    have hA' := hA.keptQ f0
    apply B_X8_addSigned_140
    refine ⟨by omega, by omega, fun z => k206 ν T4 f0 v4 g0 (fun _ m1 f1 g1 => ?_) (fun z2 => absurd z2 z), fun z => s_isSign h5 hS (by omega) (fun r hr => ⟨fun r0 => k206 ν T4 f0 v4 g0 (fun z2 => absurd z z2) (fun _ m1 f1 g1 => ?_), fun r0 => ?_⟩)⟩
    · have h9 := h m1 f1
      rw [if_neg z, mgL_nil] at h9
      exact h9 g1
    · have h9 := h m1 f1
      rw [if_pos z, mgL_cons, mgL_cons, mgL_cons, mgL_cons, mgL_nil, mgi_0 ((bit0 hr).mp r0), mgi_0 ((bit0 hr).mp r0)] at h9
      exact h9 g1
    · have hsg := (bitne hr).mp r0
      have go : ∀ x : Int, x = ind (fit α (cwd α tl f) 1 0 (tgF α w (tgA s a b)) (b - a)) → K_X8_addSigned_183 G l (d + 5) PV' q S f e q 5 S f 28 x ν := by
        intro x hx
        have x0 := i0 (fit α (cwd α tl f) 1 0 (tgF α w (tgA s a b)) (b - a))
        have x1 := ind_01 (fit α (cwd α tl f) 1 0 (tgF α w (tgA s a b)) (b - a))
        apply B_X8_addSigned_183
        refine s_addCut (y := 21) h7 hq (by omega) rfl (by omega) (by omega) (by omega) (Or.inl rfl) (by omega) (v4.T hm9) g0 (fun m1 f1 g1 => ?_)
        obtain ⟨k1, k2, k3, k4, k5, k6, k7⟩ := hE.kept (f0.tr f1).r
        have vc : vW m (mg T4 (x, 1 + (if (28 : Int) = 28 then 2 else 1), nCut 21 S 28 f)) := vW_mg v4 (v_cut (by omega) (by omega) (by omega) (by omega) (by omega) (by omega) (by omega))
        have cb1 := cb 1 0
        have vd : vW m (mg (mg T4 (x, 1 + (if (28 : Int) = 28 then 2 else 1), nCut 21 S 28 f)) (cntN α t (cwd α tl f) (fun v => fit α v 1 0 (tgF α w (tgA s a b)) (b - a)) (α 74 21).toNat, 1 + (if (29 : Int) = 28 then 2 else 1), nCut 21 S 29 f)) := vW_mg vc (v_cut (by omega) (by omega) (by omega) (by omega) (by omega) (by omega) (by omega))
        refine s_countMeant (hA'.keptQ f1) k1 k2 k3 k4 k5 (by omega) (by omega) (by omega) (s_addCut (y := 21) k7 hq (by omega) rfl (by omega) (by omega) (by omega) (Or.inr rfl) (by omega) (vc.T hm9) g1 (fun m2 f2 g2 => ?_))
        refine k206 m2 _ (f0.tr (f1.tr f2)) vd g2 (fun z2 => absurd z z2) (fun _ m3 f3 g3 => ?_)
        have h9 := h m3 f3
        rw [if_pos z, mgL_cons, mgL_cons, mgL_cons, mgL_cons, mgL_nil, mgi_1 hsg, mgi_1 hsg, ← hx] at h9
        exact h9 g3
      exact s_isOwn hA' h1 h2 h5 (by omega) (by omega) (by omega) (fun r2 hr2 => ⟨fun z2 => go 0 (ind_f ((bit0 hr2).mp z2)).symm, fun z2 => go 1 (ind_t ((bitne hr2).mp z2)).symm⟩)
  have k105 : ∀ ν, FrQ q μ ν → Hd ν q T3 → K_X8_addSigned_105 G l (d + 5) PV' q S f e ν := by
    intro ν f0 g0
    obtain ⟨h1, h2, h3, h4, h5, h6, h7⟩ := hE.kept f0.r
    have hA' := hA.keptQ f0
    apply B_X8_addSigned_105
    refine s_isSign h5 hS (by omega) (fun r hr => ⟨fun r0 => k140 ν f0 ?_, fun r0 => s_isHidden hA' h1 h5 hf (fun r2 hr2 => ⟨fun z2 => k140 ν f0 ?_, fun z2 => s_addSpread (y := 25) h7 hq (by omega) rfl (by omega) (by omega) hf.1 hf.2.1 (by omega) (v3.T hm9) g0 (fun m1 f1 g1 => k140 m1 (f0.tr f1) ?_)⟩)⟩)
    · rw [← hT4, mgi_0 ((bit0 hr).mp r0)]; exact g0
    · rw [← hT4, ind_f ((bit0 hr2).mp z2), Int.mul_zero, mg_none rfl]; exact g0
    · rw [← hT4, mgi_1 ((bitne hr).mp r0), ind_t ((bitne hr2).mp z2)]; exact g1
  have k70 : ∀ ν, FrQ q μ ν → Hd ν q T2 → K_X8_addSigned_70 G l (d + 5) PV' q S f e ν := by
    intro ν f0 g0
    obtain ⟨h1, h2, h3, h4, h5, h6, h7⟩ := hE.kept f0.r
    have hA' := hA.keptQ f0
    apply B_X8_addSigned_70
    refine s_isSign h5 hS (by omega) (fun r hr => ⟨fun r0 => k105 ν f0 ?_, fun r0 => s_isTails hA' h1 h5 hf (fun r2 hr2 => ⟨fun z2 => k105 ν f0 ?_, fun z2 => s_addSpread (y := 23) h7 hq (by omega) rfl (by omega) (by omega) hf.1 hf.2.1 (by omega) (v2.T hm9) g0 (fun m1 f1 g1 => k105 m1 (f0.tr f1) ?_)⟩)⟩)
    · rw [← hT3, mgi_0 ((bit0 hr).mp r0)]; exact g0
    · rw [← hT3, ind_f ((bit0 hr2).mp z2), Int.mul_zero, mg_none rfl]; exact g0
    · rw [← hT3, mgi_1 ((bitne hr).mp r0), ind_t ((bitne hr2).mp z2)]; exact g1
  have k35 : ∀ ν, FrQ q μ ν → Hd ν q T1 → K_X8_addSigned_35 G l (d + 5) PV' q S f e ν := by
    intro ν f0 g0
    obtain ⟨h1, h2, h3, h4, h5, h6, h7⟩ := hE.kept f0.r
    have hA' := hA.keptQ f0
    apply B_X8_addSigned_35
    refine s_isSign h5 hS (by omega) (fun r hr => ⟨fun r0 => k70 ν f0 ?_, fun r0 => s_isHeads hA' h1 h5 hf (fun r2 hr2 => ⟨fun z2 => k70 ν f0 ?_, fun z2 => s_addSpread (y := 24) h7 hq (by omega) rfl (by omega) (by omega) hf.1 hf.2.1 (by omega) (v1.T hm9) g0 (fun m1 f1 g1 => k70 m1 (f0.tr f1) ?_)⟩)⟩)
    · rw [← hT2, mgi_0 ((bit0 hr).mp r0)]; exact g0
    · rw [← hT2, ind_f ((bit0 hr2).mp z2), Int.mul_zero, mg_none rfl]; exact g0
    · rw [← hT2, mgi_1 ((bitne hr).mp r0), ind_t ((bitne hr2).mp z2)]; exact g1
  obtain ⟨h1, h2, h3, h4, h5, h6, h7⟩ := id hE
  apply E_X8_addSigned
  refine s_isSign h5 hS (by omega) (fun r hr => ⟨fun r0 => k35 μ FrQ.rf ?_, fun r0 => s_isShuffled hA h1 h5 hf (fun r2 hr2 => ⟨fun z2 => k35 μ FrQ.rf ?_, fun z2 => s_addSpread (y := 30) h7 hq (by omega) rfl (by omega) (by omega) hf.1 hf.2.1 (by omega) (hT.T hm9) hH (fun m1 f1 g1 => k35 m1 f1 ?_)⟩)⟩)
  · rw [← hT1, mgi_0 ((bit0 hr).mp r0)]; exact hH
  · rw [← hT1, ind_f ((bit0 hr2).mp z2), Int.mul_zero, mg_none rfl]; exact hH
  · rw [← hT1, mgi_1 ((bitne hr).mp r0), ind_t ((bitne hr2).mp z2)]; exact g1
/-- a place; the places there are -/
def pc (tb i j a b : Int) : Int := (tb * 36 + (j * (j + 1) / 2 + i)) * 55 + (b * (b - 1) / 2 + a)
def okP (tb i j a b : Int) : Prop := (0 ≤ tb ∧ tb ≤ 3) ∧ (0 ≤ i ∧ i ≤ j ∧ j ≤ 7) ∧ 0 ≤ a ∧ a < b ∧ b ≤ 10
theorem c8 {j : Int} (h0 : 0 ≤ j) (h1 : j ≤ 7) : j = 0 ∨ j = 1 ∨ j = 2 ∨ j = 3 ∨ j = 4 ∨ j = 5 ∨ j = 6 ∨ j = 7 := by omega
theorem c10 {j : Int} (h0 : 1 ≤ j) (h1 : j ≤ 10) : j = 1 ∨ j = 2 ∨ j = 3 ∨ j = 4 ∨ j = 5 ∨ j = 6 ∨ j = 7 ∨ j = 8 ∨ j = 9 ∨ j = 10 := by omega
theorem tri_j {i j : Int} (h : 0 ≤ i ∧ i ≤ j ∧ j ≤ 7) : 0 ≤ j * (j + 1) / 2 + i ∧ j * (j + 1) / 2 + i < 36 := by
  rcases c8 (j := j) (by omega) h.2.2 with rfl | rfl | rfl | rfl | rfl | rfl | rfl | rfl <;> omega
theorem tri_b {a b : Int} (h : 0 ≤ a ∧ a < b ∧ b ≤ 10) : 0 ≤ b * (b - 1) / 2 + a ∧ b * (b - 1) / 2 + a < 55 := by
  rcases c10 (j := b) (by omega) h.2.2 with rfl | rfl | rfl | rfl | rfl | rfl | rfl | rfl | rfl | rfl <;> omega
theorem tri_j2 {i j i' j' : Int} (h : 0 ≤ i ∧ i ≤ j ∧ j ≤ 7) (h' : 0 ≤ i' ∧ i' ≤ j' ∧ j' ≤ 7) (e : j * (j + 1) / 2 + i = j' * (j' + 1) / 2 + i') : j = j' ∧ i = i' := by
  rcases c8 (j := j) (by omega) h.2.2 with rfl | rfl | rfl | rfl | rfl | rfl | rfl | rfl <;> rcases c8 (j := j') (by omega) h'.2.2 with rfl | rfl | rfl | rfl | rfl | rfl | rfl | rfl <;> omega
theorem tri_b2 {a b a' b' : Int} (h : 0 ≤ a ∧ a < b ∧ b ≤ 10) (h' : 0 ≤ a' ∧ a' < b' ∧ b' ≤ 10) (e : b * (b - 1) / 2 + a = b' * (b' - 1) / 2 + a') : b = b' ∧ a = a' := by
  rcases c10 (j := b) (by omega) h.2.2 with rfl | rfl | rfl | rfl | rfl | rfl | rfl | rfl | rfl | rfl <;> rcases c10 (j := b') (by omega) h'.2.2 with rfl | rfl | rfl | rfl | rfl | rfl | rfl | rfl | rfl | rfl <;> omega
theorem pc_b {tb i j a b : Int} (h : okP tb i j a b) : 0 ≤ pc tb i j a b ∧ pc tb i j a b < 7920 := by
  have h1 := tri_j h.2.1
  have h2 := tri_b h.2.2
  have h3 := h.1
  unfold pc
  omega
theorem pc_inj {tb i j a b tb' i' j' a' b' : Int} (h : okP tb i j a b) (h' : okP tb' i' j' a' b') (e : pc tb i j a b = pc tb' i' j' a' b') : tb = tb' ∧ i = i' ∧ j = j' ∧ a = a' ∧ b = b' := by
  have h1 := tri_j h.2.1
  have h2 := tri_b h.2.2
  have h3 := h.1
  have h1' := tri_j h'.2.1
  have h2' := tri_b h'.2.2
  have h3' := h'.1
  unfold pc at e
  have e1 : b * (b - 1) / 2 + a = b' * (b' - 1) / 2 + a' := by omega
  have e2 : j * (j + 1) / 2 + i = j' * (j' + 1) / 2 + i' := by omega
  have e3 : tb = tb' := by omega
  obtain ⟨z1, z2⟩ := tri_b2 h.2.2 h'.2.2 e1
  obtain ⟨z3, z4⟩ := tri_j2 h.2.1 h'.2.1 e2
  exact ⟨e3, z4, z3, z2, z1⟩
theorem s_placeOf {tb i j a b : Int} (h : okP tb i j a b) (hP : P (pc tb i j a b) μ) : CI G l (d + 1) mX5_placeOf [xr G 27, xi tb, xi i, xi j, xi a, xi b] μ P := by
  apply E_X5_placeOf
  have h1 := pc_b h
  unfold pc at h1 hP
  refine ⟨?_, ?_, by omega, hP⟩
  · rcases c8 (j := j) (by have := h.2.1; omega) h.2.1.2.2 with rfl | rfl | rfl | rfl | rfl | rfl | rfl | rfl <;> omega
  · rcases c10 (j := b) (by have := h.2.2; omega) h.2.2.2.2 with rfl | rfl | rfl | rfl | rfl | rfl | rfl | rfl | rfl | rfl <;> omega
theorem s_hasEnough {q : Int} {T : Tri} (hE : EnvM μ) (hq : 0 ≤ q ∧ q < 7922) (hT : vT 36 T) (hH : Hd μ q T) (h : ∀ r, bit r (μ 27 8 = 0 ∧ μ 27 7 ≤ μ 29 q) → P r μ) : CI G l (d + 1) mX5_hasEnough [xr G 27, xi q] μ P := by
  obtain ⟨w1, w2, w3, w4⟩ := hH.ways hE hT
  have e7 := hE.1
  have e8 := hE.2
  apply E_X5_hasEnough
  exact ⟨by omega, fun z => h 0 (Or.inr ⟨rfl, fun q => z q.1⟩), fun z => ⟨hq, by omega, by omega, fun y => h 0 (Or.inr ⟨rfl, fun q => by omega⟩), fun y => h 1 (Or.inl ⟨rfl, z, y⟩)⟩⟩
theorem mgL_ge {m : Int} : ∀ (us : List Tri) {T : Tri}, vL m us → T.1 ≤ (mgL T us).1
  | [], T, _ => Int.le_refl _
  | u :: us, T, hu => by
    have h1 := (hu u (List.mem_cons_self ..)).1
    have h2 := mgL_ge us (T := mg T u) (fun x hx => hu x (List.mem_cons_of_mem _ hx))
    have h3 : (mg T u).1 = T.1 + u.1 := rfl
    rw [mgL_cons]
    omega
theorem Hd.more {q m : Int} {T : Tri} {us : List Tri} (h8 : μ 27 8 = 0) (h7 : μ 27 7 ≤ μ 29 q) (hH : Hd μ q T) (hu : vL m us) : Hd μ q (mgL T us) := by
  obtain ⟨a, b, c⟩ := hH
  have h1 := mgL_ge us (T := T) hu
  refine ⟨?_, b, fun z => absurd h8 z⟩
  rw [a] at h7 ⊢
  unfold cap at *
  grind
end SpecRec2
