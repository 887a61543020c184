/-! right, winner -/
section Right
variable {G : xG} {l : Launch} {d : Nat} {μ ν α m y z : xMem} {P : Int → xMem → Prop} {PV' : xMem → Prop} {N t : Int}
def sl (α : xMem) (g c k : Int) : Int := α 126 (160 * g + lenS α c.toNat + k)
def ansd (α : xMem) (t g c : Int) : Prop := ∃ w, ((slo α c t w ∧ w ≠ -1) ∨ pos α c w t) ∧ ∀ k, 0 ≤ k → k < α 89 c → lt α w k = sl α g c k
def alik (α : xMem) (g c v : Int) : Prop := ∀ o k k', o < c → k < v → crs α c o k k' → sl α g c k = sl α g o k'
def rgt (α : xMem) (g t : Int) : Prop := α 128 g ≤ t ∧ α 127 g = lenS α 16 ∧ ∀ c, lit α c → ansd α t g c ∧ alik α g c 9
theorem slR {g c k : Int} (hG : gG α) (hR : gR α) (hg : 0 ≤ g ∧ g < α 74 81) (e : α 127 g = lenS α 16) (hc : lit α c) (h0 : 0 ≤ k) (h1 : k < α 89 c) : (0 ≤ lenS α c.toNat ∧ lenS α c.toNat + α 89 c ≤ 144) ∧ α 71 (g * 160 + lenS α c.toNat + k) = sl α g c k ∧ 97 ≤ sl α g c k ∧ sl α g c k ≤ 122 := by
  have c0 := hc.1
  have c1 := hc.2.1
  have q1 := lenS_m hG 0 c.toNat (by omega)
  have q2 := lenS_m hG (16 - (c.toNat + 1)) (c.toNat + 1) (by omega)
  have q3 := lenS_m hG 16 0 (by omega)
  rw [Nat.zero_add] at q3
  have e0 : lenS α 0 = 0 := rfl
  have hb := (len_b hG hc.1 hc.2.1).2.2.1 hc
  rw [show c.toNat + 1 + (16 - (c.toNat + 1)) = 16 by omega, lenS, show ((c.toNat : Nat) : Int) = c by omega] at q2
  obtain ⟨-, -, -, -, r5⟩ := hR.2.2 g hg.1 hg.2
  have := r5 (lenS α c.toNat + k) (by omega) (by omega)
  unfold sl
  rw [show g * 160 + lenS α c.toNat + k = g * 160 + (lenS α c.toNat + k) by omega, show 160 * g + lenS α c.toNat + k = 160 * g + (lenS α c.toNat + k) by omega]
  exact ⟨by omega, this⟩
theorem crs_sym {c o k k' : Int} (h : crs α c o k k') : crs α o c k' k := by
  obtain ⟨h1, h2, h3, h4, h5, h6⟩ := h
  exact ⟨h2, h1, fun q => h3 q.symm, h5, h4, h6.symm⟩
theorem s_placeStarts {g : Int} (e49 : z 49 = α 49) (h : ∀ z', FrX [73] [] z z' → (∀ c, 0 ≤ c → c < 16 → z' 73 c = g * 160 + lenS α c.toNat) → PV' z') : CV G l (d + 1) mX7_placeStarts [xr G 67, xi g] z PV' := by
  apply E_X7_placeStarts
  have main : ∀ (n v : Nat) (x : xMem), v + n = 16 → FrX [73] [] z x → (∀ c, 0 ≤ c → c < (v : Int) → x 73 c = g * 160 + lenS α c.toNat) → K_X7_placeStarts_8 G l (d + 1) PV' (g * 160 + lenS α v) (v : Int) x := by
    intro n
    induction n with
    | zero =>
      intro v x hv fx hx
      apply B_X7_placeStarts_8
      exact ⟨by omega, fun _ => h x fx (fun c c0 c1 => hx c c0 (by omega)), fun q => by omega⟩
    | succ n ih =>
      intro v x hv fx hx
      have hi := ih (v + 1) (st2 x 73 v (g * 160 + lenS α v)) (by omega) ((fx.tr FrX.sa).sub (by decide) (by decide)) (fun c c0 c1 => ?_)
      · rw [lenS, show g * 160 + (lenS α v + α 49 v) = g * 160 + lenS α v + α 49 v by omega, show ((v + 1 : Nat) : Int) = (v : Int) + 1 by omega] at hi
        apply B_X7_placeStarts_8
        rw [fx.k 49 (by decide), e49]
        exact ⟨by omega, fun q => by omega, fun _ => ⟨by omega, hi⟩⟩
      · rw [st_i]
        by_cases q : c = (v : Int)
        · rw [if_pos q, q]; rfl
        · rw [if_neg q]; exact hx c c0 (by omega)
  have := main 16 0 z (by omega) FrX.rf (fun c c0 c1 => by omega)
  rw [show g * 160 + lenS α 0 = g * 160 by rw [lenS]; omega] at this
  exact this
theorem s_isAlike {g c : Int} (hG : gG α) (hR : gR α) (hg : 0 ≤ g ∧ g < α 74 81) (e : α 127 g = lenS α 16) (hx : xG' α z) (e71 : z 71 = α 71) (h73 : ∀ c, 0 ≤ c → c < 16 → z 73 c = g * 160 + lenS α c.toNat) (hc : lit α c) (h : ∀ r, bit r (alik α g c 9) → P r z) : CI G l (d + 2) mX7_isAlikeWhereCrossed [xr G 67, xi c] z P := by
  have c0 := hc.1
  have c1 := hc.2.1
  have gb := hR.2.1
  apply E_X7_isAlikeWhereCrossed
  have main : ∀ (n : Nat) (v : Int), v + n = c → 0 ≤ v → (∀ o k k', o < v → crs α c o k k' → sl α g c k = sl α g o k') → K_X7_isAlikeWhereCrossed_2 G l (d + 2) P c v z := by
    intro n
    induction n with
    | zero =>
      intro v hv v0 hi
      apply B_X7_isAlikeWhereCrossed_2
      exact ⟨by omega, by omega, fun _ => h 1 (Or.inl ⟨rfl, fun o k k' o1 _ q => hi o k k' (by omega) q⟩), fun q => by omega⟩
    | succ n ih =>
      intro v hv v0 hi
      apply B_X7_isAlikeWhereCrossed_2
      refine ⟨by omega, by omega, fun q => by omega, fun _ => s_crossingOf hG hx ⟨c0, c1⟩ (by omega) (fun r hr => ⟨fun q => ih (v + 1) (by omega) (by omega) (fun o k k' o1 q2 => ?_), fun q => ?_⟩)⟩
      · rcases (show o < v ∨ o = v by omega) with w | w
        · exact hi o k k' w q2
        · subst w
          rcases hr with u | u
          · exact absurd q2 (u.2 k k')
          · exact absurd q u.1
      · obtain ⟨k', hk⟩ : ∃ k', crs α c v r k' := by
          rcases hr with u | u
          · exact absurd u.1 q
          · exact u.2
        have hv' := hk.2.1
        have b1 := hk.2.2.2.1
        have b2 := hk.2.2.2.2.1
        obtain ⟨a1, a2, a3⟩ := slR hG hR hg e hc b1.1 b1.2
        obtain ⟨d1, d2, d3⟩ := slR hG hR hg e hv' b2.1 b2.2
        refine ⟨by omega, ?_⟩
        rw [h73 c c0 c1, h73 v (by omega) (by omega)]
        refine ⟨by omega, by omega, s_crossingOf hG hx (by omega) ⟨c0, c1⟩ (fun r2 hr2 => ?_)⟩
        have e2 : r2 = k' := by
          rcases hr2 with u | ⟨_, k2, u⟩
          · exact absurd (crs_sym hk) (u.2 _ _)
          · exact (crs_uniq hG.1 u (crs_sym hk)).1
        rw [e2, e71, a2, d2]
        refine ⟨by omega, by omega, by omega, fun q3 => ih (v + 1) (by omega) (by omega) (fun o k k2 o1 q2 => ?_), fun q3 => h 0 (Or.inr ⟨rfl, fun q4 => q3 (q4 v r k' (by omega) ?_ hk)⟩)⟩
        · rcases (show o < v ∨ o = v by omega) with w | w
          · exact hi o k k2 w q2
          · subst w
            obtain ⟨u1, u2⟩ := crs_uniq hG.1 q2 hk
            rw [u1, u2]
            exact q3
        · have := (hG.1.2.1 c hc).2.2.1
          omega
  exact main c.toNat 0 (by omega) (by omega) (fun o k k' o1 q => by have := q.2.1.1; omega)
theorem s_isAnswered {m1 : xMem} {g c : Int} (hG : gG α) (hR : gR α) (hW : gW α) (hL : gL α) (hg : 0 ≤ g ∧ g < α 74 81) (e : α 127 g = lenS α 16) (hA : MA α m1) (e41 : z 41 = m1 41) (e42 : z 42 = m1 42) (hrl : rlW α z) (hxl : xL α z) (e49 : z 49 = α 49) (e71 : z 71 = α 71) (h73 : ∀ c, 0 ≤ c → c < 16 → z 73 c = g * 160 + lenS α c.toNat) (ht : iR t) (hc : lit α c) (hl : lok m1 c t) (h : ∀ r, bit r (ansd α t g c) → P r z) : CI G l (d + 4) mX7_isAnswered [xr G 67, xi c, xi t] z P := by
  have c0 := hc.1
  have c1 := hc.2.1
  have gb := hR.2.1
  have hbw := hW.1.1
  have lb := (hG.1.2.1 c hc).2.2.1
  have q49 := (len_b hG hc.1 hc.2.1).2.2.1 hc
  obtain ⟨a1, -, -⟩ := slR hG hR hg e hc (Int.le_refl 0) (by omega)
  apply E_X7_isAnswered
  refine ⟨by omega, ?_⟩
  rw [h73 c c0 c1, e49, q49]
  refine s_find (α := α) (F := fun i => sl α g c i) rfl (by decide) hW.1 hrl (by omega) (by omega) (fun i i0 i1 => ?_) (fun r hr => ?_)
  · obtain ⟨-, d2, d3⟩ := slR hG hR hg e hc i0 i1
    rw [e71, d2]
    exact ⟨rfl, by omega⟩
  · have uni : ∀ w, ((slo α c t w ∧ w ≠ -1) ∨ pos α c w t) → (∀ k, 0 ≤ k → k < α 89 c → lt α w k = sl α g c k) → mat α (fun i => sl α g c i) (α 89 c) w := by
      intro w q1 q2
      have hw : (0 ≤ w ∧ w < α 74 20) ∧ α 77 w = α 89 c := by
        rcases q1 with ⟨u, v⟩ | u
        · exact slo_w hL u v
        · exact pos_w u
      exact ⟨hw.1, hw.2, q2⟩
    refine ⟨fun q => h 0 (Or.inr ⟨rfl, fun ⟨w, q1, q2⟩ => ?_⟩), fun q => ?_⟩
    · have hm := uni w q1 q2
      rcases hr with u | u
      · exact u.2 w hm
      · have := u.1.1; omega
    · have hm : mat α (fun i => sl α g c i) (α 89 c) r := by
        rcases hr with u | u
        · exact absurd u.1 q
        · exact u
      have rb := hm.1
      have one : ∀ w, mat α (fun i => sl α g c i) (α 89 c) w → w = r := by
        intro w hw
        refine hW.2.1 w r hw.1.1 hw.1.2 hm.1.1 hm.1.2 (hw.2.1.trans hm.2.1.symm) (fun i i0 i1 => ?_)
        rw [hw.2.1] at i1
        rw [hw.2.2 i i0 i1, hm.2.2 i i0 i1]
      refine s_solutionOf hW hL hxl (by omega) ht (fun r6 h6 => ⟨fun q2 => h 1 (Or.inl ⟨rfl, r, Or.inl ⟨by rw [q2]; exact h6, q⟩, fun k k0 k1 => hm.2.2 k k0 k1⟩), fun q2 => s_has hW hA e41 e42 ⟨c0, c1⟩ hl (by omega) (fun r10 h10 => ⟨fun q3 => h 0 (Or.inr ⟨rfl, fun ⟨w, q4, q5⟩ => ?_⟩), fun q3 => h 1 (Or.inl ⟨rfl, r, Or.inr ((bitne h10).mp q3), fun k k0 k1 => hm.2.2 k k0 k1⟩)⟩)⟩)
      have ew := one w (uni w q4 q5)
      subst ew
      rcases q4 with ⟨u, v⟩ | u
      · exact q2 (slo_u u h6)
      · exact (bit0 h10).mp q3 u
theorem s_isRight {m1 : xMem} {g : Int} (hG : gG α) (hR : gR α) (hW : gW α) (hL : gL α) (hg : 0 ≤ g ∧ g < α 74 81) (f1 : FrX Sr Tr' α m1) (ht : iR t) (l1 : ∀ c, lit α c → lok m1 c t) (fz : FrX [73] [] m1 z) (hD : gD α) (h : ∀ r z', FrX [73] [] m1 z' → bit r (rgt α g t) → P r z') : CI G l (d + 5) mX7_isRight [xr G 67, xi g, xi t] z P := by
  have gb := hR.2.1
  have td := hD.1
  have td2 := hD.2
  obtain ⟨r1, r2, r3, r4, -⟩ := hR.2.2 g hg.1 hg.2
  have f := f1.tr fz
  have q3 := lenS_m hG 16 0 (by omega)
  rw [Nat.zero_add] at q3
  have e0 : lenS α 0 = 0 := rfl
  apply E_X7_isRight
  rw [f.k 69 (by decide), f.k 72 (by decide), f.f 46 10 (by decide), r1, r3, hG.2.1.2.2.2.2.2]
  refine ⟨by omega, by omega, ht, fun q => h 0 z fz (Or.inr ⟨rfl, fun q2 => by have := q2.1; omega⟩), fun q => ⟨by omega, by omega, fun e => s_placeStarts (α := α) (f.k 49 (by decide)) (fun y fy h73 => ?_), fun q2 => h 0 z fz (Or.inr ⟨rfl, fun q4 => q2 q4.2.1⟩)⟩⟩
  have fy1 : FrX [73] [] m1 y := (fz.tr fy).sub (by decide) (by decide)
  have fy0 := f1.tr fy1
  have hx : xG' α y := xG'.of fy0 (by decide)
  have hxl : xL α y := xL.of fy0 (by decide)
  have hrl : rlW α y := by
    have := hW.2.2.1
    unfold rlW at *
    rw [fy0.f 4 2 (by decide), fy0.k 14 (by decide), fy0.k 13 (by decide)]
    exact this
  have main : ∀ (n : Nat) (v : Int), v + n = 16 → 0 ≤ v → (∀ c, lit α c → c < v → ansd α t g c ∧ alik α g c 9) → K_X7_isRight_38 G l (d + 5) P t v y := by
    intro n
    induction n with
    | zero =>
      intro v hv v0 hi
      apply B_X7_isRight_38
      exact ⟨by omega, fun _ => h 1 y fy1 (Or.inl ⟨rfl, q, e, fun c hc => hi c hc (by have := hc.2.1; omega)⟩), fun q => by omega⟩
    | succ n ih =>
      intro v hv v0 hi
      have nx : (lit α v → ansd α t g v ∧ alik α g v 9) → K_X7_isRight_38 G l (d + 5) P t (v + 1) y := fun hq => ih (v + 1) (by omega) (by omega) (fun c hc c1 => by
        rcases (show c < v ∨ c = v by omega) with w | w
        · exact hi c hc w
        · rw [w] at hc ⊢; exact hq hc)
      apply B_X7_isRight_38
      refine ⟨by omega, fun q2 => by omega, fun _ => s_hasLight hG (fy0.k 49 (by decide)) (by omega) (fun r4 h4 => ⟨fun q2 => nx (fun q5 => absurd q5 ((bit0 h4).mp q2)), fun q2 => ?_⟩)⟩
      have hc := (bitne h4).mp q2
      refine s_isAlike hG hR hg e hx (fy0.k 71 (by decide)) h73 hc (fun r8 h8 => ⟨fun q4 => h 0 y fy1 (Or.inr ⟨rfl, fun q5 => (bit0 h8).mp q4 (q5.2.2 v hc).2⟩), fun q4 => ?_⟩)
      refine s_isAnswered hG hR hW hL hg e (MA.of f1 (by decide)) (fy1.k 41 (by decide)) (fy1.k 42 (by decide)) hrl hxl (fy0.k 49 (by decide)) (fy0.k 71 (by decide)) h73 ht hc (l1 v hc) (fun r12 h12 => ⟨fun q5 => nx (fun _ => ⟨(bitne h12).mp q5, (bitne h8).mp q4⟩), fun q5 => h 0 y fy1 (Or.inr ⟨rfl, fun q6 => (bit0 h12).mp q5 (q6.2.2 v hc).1⟩)⟩)
  exact main 16 0 (by omega) (by omega) (fun c hc c1 => by have := hc.1; omega)

theorem s_isSent {g c w : Int} (hG : gG α) (hR : gR α) (hW : gW α) (hg : 0 ≤ g ∧ g < α 74 81) (e : α 127 g = lenS α 16) (e76 : z 76 = α 76) (e77 : z 77 = α 77) (e126 : z 126 = α 126) (hc : lit α c) (hw : (0 ≤ w ∧ w < α 74 20) ∧ α 77 w = α 89 c) (h : ∀ r, bit r (∀ k, 0 ≤ k → k < α 89 c → lt α w k = sl α g c k) → P r z) : CI G l (d + 2) mX12_isSent [xr G 74, xi g, xi (lenS α c.toNat), xi w] z P := by
  have gb := hR.2.1
  have hbw := hW.1.1
  have lb := (hG.1.2.1 c hc).2.2.1
  obtain ⟨hw1, hw2⟩ := hw
  apply E_X12_isSent
  have main : ∀ (n : Nat) (v : Int), v + n = α 89 c → 0 ≤ v → (∀ k, 0 ≤ k → k < v → lt α w k = sl α g c k) → K_X12_isSent_3 G l (d + 2) P g (lenS α c.toNat) w v z := by
    intro n
    induction n with
    | zero =>
      intro v hv v0 hi
      apply B_X12_isSent_3
      rw [e77, hw2]
      exact ⟨by omega, by omega, by omega, fun _ => h 1 (Or.inl ⟨rfl, fun k k0 k1 => hi k k0 (by omega)⟩), fun q => by omega⟩
    | succ n ih =>
      intro v hv v0 hi
      obtain ⟨a1, a2, a3⟩ := slR hG hR hg e hc v0 (by omega)
      apply B_X12_isSent_3
      rw [e77, hw2, e126]
      refine ⟨by omega, by omega, by omega, fun q => by omega, fun _ => ⟨by omega, s_letterOf hW e76 hw1 v0 (by omega) ⟨?_, fun q => ih (v + 1) (by omega) (by omega) (fun k k0 k1 => ?_), fun q => h 0 (Or.inr ⟨rfl, fun q2 => q (q2 v v0 (by omega)).symm⟩)⟩⟩⟩
      · unfold sl at a3; omega
      · rcases (show k < v ∨ k = v by omega) with y | y
        · exact hi k k0 y
        · rw [y]; exact q.symm
  exact main (α 89 c).toNat 0 (by omega) (by omega) (fun k k0 k1 => by omega)
/-- what is written in the cells of the lights ahead -/
def wrt (α z : xMem) (g c v : Int) : Prop := ∀ x, 0 ≤ x → x < 81 → (z 129 x = 0 ∧ ∀ o k, lit α o → (o < c ∨ (o = c ∧ k < v)) → 0 ≤ k → k < α 89 o → cel α o k ≠ x) ∨ ∃ o k, lit α o ∧ (o < c ∨ (o = c ∧ k < v)) ∧ (0 ≤ k ∧ k < α 89 o) ∧ cel α o k = x ∧ z 129 x = sl α g o k
theorem wrt_nx {g c : Int} (h : wrt α z g c (α 89 c)) : wrt α z g (c + 1) 0 := by
  intro x x0 x1
  rcases h x x0 x1 with ⟨q1, q2⟩ | ⟨o, k, q1, q2, q3, q4⟩
  · refine Or.inl ⟨q1, fun o k ho hk k0 k1 => q2 o k ho ?_ k0 k1⟩
    rcases (show o < c ∨ o = c by omega) with y | y
    · exact Or.inl y
    · exact Or.inr ⟨y, by rw [y] at k1; exact k1⟩
  · exact Or.inr ⟨o, k, q1, Or.inl (by omega), q3, q4⟩
theorem wrt_no {g c : Int} (hc : ¬ lit α c) (h : wrt α z g c 0) : wrt α z g (c + 1) 0 := by
  intro x x0 x1
  rcases h x x0 x1 with ⟨q1, q2⟩ | ⟨o, k, q1, q2, q3, q4⟩
  · refine Or.inl ⟨q1, fun o k ho hk k0 k1 => q2 o k ho ?_ k0 k1⟩
    rcases (show o < c ∨ o = c by omega) with y | y
    · exact Or.inl y
    · rw [y] at ho; exact absurd ho hc
  · exact Or.inr ⟨o, k, q1, Or.inl (by omega), q3, q4⟩
theorem wrt_st {g c v : Int} (hG : gG α) (hc : lit α c) (h0 : 0 ≤ v) (h1 : v < α 89 c) (h : wrt α z g c v) : wrt α (st2 z 129 (cel α c v) (sl α g c v)) g c (v + 1) := by
  intro x x0 x1
  rw [st_i]
  by_cases q : x = cel α c v
  · rw [if_pos q]
    exact Or.inr ⟨c, v, hc, Or.inr ⟨rfl, by omega⟩, ⟨h0, h1⟩, q.symm, rfl⟩
  · rw [if_neg q]
    rcases h x x0 x1 with ⟨q1, q2⟩ | ⟨o, k, q1, q2, q3, q4⟩
    · refine Or.inl ⟨q1, fun o k ho hk k0 k1 => ?_⟩
      rcases (show (o < c ∨ (o = c ∧ k < v)) ∨ (o = c ∧ k = v) by omega) with y | ⟨y1, y2⟩
      · exact q2 o k ho y k0 k1
      · rw [y1, y2]; exact fun e => q e.symm
    · exact Or.inr ⟨o, k, q1, by omega, q3, q4⟩
theorem s_mIsRight {g : Int} (hN9 : 0 ≤ N ∧ N ≤ 600) (hG : gG α) (hR : gR α) (hW : gW α) (hL : gL α) (hX : XW m) (hK : gK N m) (hx : mG α m) (hD : gD α) (hg : 0 ≤ g ∧ g < α 74 81) (ht : iR t) (e67 : m 74 67 = α 74 67) (e114 : m 114 = α 114) (e115 : m 115 = α 115) (e116 : m 116 = α 116) (e126 : m 126 = α 126) (e127 : m 127 = α 127) (e128 : m 128 = α 128) (h : ∀ r z, FrX (129 :: Sf) Tf m z → gK N z → bit r (rgt α g t) → P r z) : CI G l (d + 10) mX12_isRight [xr G 74, xi g, xi t] m P := by
  have gb := hR.2.1
  have td := hD.1
  have td2 := hD.2
  have hbw := hW.1.1
  obtain ⟨r1, r2, r3, r4, -⟩ := hR.2.2 g hg.1 hg.2
  have q3 := lenS_m hG 16 0 (by omega)
  rw [Nat.zero_add] at q3
  have e0 : lenS α 0 = 0 := rfl
  have e89 : m 89 = α 89 := hx.2.2.2.2.2.2.k 89 (by decide) (by decide)
  apply E_X12_isRight
  rw [e127, e128]
  refine ⟨by omega, by omega, ht, fun q => h 0 m FrX.rf hK (Or.inr ⟨rfl, fun q2 => by have := q2.1; omega⟩), fun q => s_allLetters hG hx.2.2.2.2.1 e89 ⟨by omega, fun e => s_mfind hN9 ht hX hK (fun m3 f3 k3 can => ?_), fun q2 => h 0 m FrX.rf hK (Or.inr ⟨rfl, fun q4 => q2 q4.2.1⟩)⟩⟩
  have hx3 : mG α m3 := hx.kept f3 (by decide)
  have hcan : ∀ c w, 0 ≤ c → c < 16 → 0 ≤ w → w < 120 → m3 108 (120 * c + w) = ind (pos α c w t) := fun c w c0 c1 w0 w1 => by rw [can c w c0 c1 w0 w1, pos_eq hx3.2.2.2.2.2.2]
  have kx : ∀ z, FrX [129] [] m3 z → mG α z := fun z f => hx3.kept f (by decide)
  have kf : ∀ z, FrX [129] [] m3 z → FrX (129 :: Sf) Tf m z := fun z f => (f3.tr f).sub (by decide) (by decide)
  have kk : ∀ z, FrX [129] [] m3 z → gK N z := fun z f => k3.kept (MA.of f (by decide)) f (by decide)
  have k126 : ∀ z, FrX [129] [] m3 z → z 126 = α 126 := fun z f => ((f.k 126 (by decide)).trans (f3.k 126 (by decide))).trans e126
  have k175 : ∀ (c : Int) (z0 : xMem), lit α c → FrX [129] [] m3 z0 → ansd α t g c → wrt α z0 g c 0 → (∀ z, FrX [129] [] m3 z → alik α g c 9 → wrt α z g (c + 1) 0 → K_X12_isRight_56 G l (d + 10) P g t (lenS α (c.toNat + 1)) (c + 1) z) → K_X12_isRight_175 G l (d + 10) P g t (lenS α c.toNat) c 0 z0 := by
    intro c z0 hc fz0 han hw0 nxt
    have c0 := hc.1
    have c1 := hc.2.1
    have lb := (hG.1.2.1 c hc).2.2.1
    have q49 := (len_b hG hc.1 hc.2.1).2.2.1 hc
    rw [lenS, show ((c.toNat : Nat) : Int) = c by omega, q49] at nxt
    have main : ∀ (n : Nat) (v : Int) (z : xMem), v + n = α 89 c → 0 ≤ v → FrX [129] [] m3 z → alik α g c v → wrt α z g c v → K_X12_isRight_175 G l (d + 10) P g t (lenS α c.toNat) c v z := by
      intro n
      induction n with
      | zero =>
        intro v z hv v0 fz hi hw
        have e89 : z 89 = α 89 := (kx z fz).2.2.2.2.2.2.k 89 (by decide) (by decide)
        apply B_X12_isRight_175
        rw [e89]
        refine ⟨by omega, by omega, by omega, fun _ => nxt z fz (fun o k k' o1 _ q => hi o k k' o1 ?_ q) ?_, fun q => by omega⟩
        · have := q.2.2.2.1; omega
        · refine wrt_nx ?_
          rw [show α 89 c = v by omega]
          exact hw
      | succ n ih =>
        intro v z hv v0 fz hi hw
        have e89 : z 89 = α 89 := (kx z fz).2.2.2.2.2.2.k 89 (by decide) (by decide)
        obtain ⟨a1, a2, a3⟩ := slR hG hR hg e hc v0 (by omega)
        have cb := cel_b hG.1 hc v0 (show v < α 89 c by omega)
        have esl : α 126 (160 * g + lenS α c.toNat + v) = sl α g c v := rfl
        have hs := wrt_st hG hc v0 (by omega) hw
        have nx : (∀ o k', o < c → crs α c o v k' → sl α g c v = sl α g o k') → K_X12_isRight_175 G l (d + 10) P g t (lenS α c.toNat) c (v + 1) (st2 z 129 (cel α c v) (sl α g c v)) := fun hq => ih (v + 1) _ (by omega) (by omega) ((fz.tr FrX.sa).sub (by decide) (by decide)) (fun o k k' o1 k1 q => by
          rcases (show k < v ∨ k = v by omega) with y | y
          · exact hi o k k' o1 y q
          · rw [y] at q ⊢; exact hq o k' o1 q) hs
        apply B_X12_isRight_175
        rw [e89]
        refine ⟨by omega, by omega, by omega, fun q => by omega, fun _ => s_mCellOf hG (kx z fz) hc v0 (by omega) ?_⟩
        rw [k126 z fz, esl]
        refine ⟨by omega, cb, ?_⟩
        rcases hw (cel α c v) cb.1 cb.2 with ⟨w1, w2⟩ | ⟨o, k, w1, w2, w3, w4, w5⟩
        · rw [w1]
          exact ⟨by decide, fun _ => nx (fun o k' o1 q => absurd q.2.2.2.2.2.symm (w2 o k' q.2.1 (Or.inl o1) q.2.2.2.2.1.1 q.2.2.2.2.1.2)), fun q => absurd q (by decide)⟩
        · obtain ⟨-, -, b3⟩ := slR hG hR hg e w1 w3.1 w3.2
          have hcr : crs α c o v k ∧ o < c := by
            rcases shared hG.1 hc w1 ⟨v0, by omega⟩ w3 w4.symm with ⟨y1, y2⟩ | y
            · omega
            · have := y.2.2.1
              rcases w2 with u | u
              · exact ⟨y, u⟩
              · rw [u.1] at this; exact absurd rfl this
          rw [w5]
          refine ⟨by omega, fun q => by omega, fun _ => ⟨by omega, fun q => nx (fun o' k' o1 hq => ?_), fun q => h 0 z (kf z fz) (kk z fz) (Or.inr ⟨rfl, fun q2 => q ?_⟩)⟩⟩
          · have ed : cel α o k = cel α o' k' := w4.trans hq.2.2.2.2.2
            rcases shared hG.1 w1 hq.2.1 w3 hq.2.2.2.2.1 ed with ⟨y1, y2⟩ | y
            · rw [← y1, ← y2]; exact q.symm
            · have n1 := y.2.2.1
              have n2 := hq.2.2.1
              have n3 := hcr.1.2.2.1
              have d1 := (hG.1.1 c hc.1 hc.2.1).2
              have d2 := (hG.1.1 o w1.1 w1.2.1).2
              have d3 := (hG.1.1 o' hq.2.1.1 hq.2.1.2.1).2
              omega
          · exact ((q2.2.2 c hc).2 o v k hcr.2 (by omega) hcr.1).symm
    exact main (α 89 c).toNat 0 z0 (by omega) (by omega) fz0 (fun o k k' o1 k1 q => by have := q.2.2.2.1; omega) hw0
  have k111 : ∀ (c : Int) (z : xMem), lit α c → FrX [129] [] m3 z → (ansd α t g c → K_X12_isRight_175 G l (d + 10) P g t (lenS α c.toNat) c 0 z) → ∀ f, (f = 0 ∨ f = 1) → (f = 1 → ansd α t g c) → (f = 0 → ∀ w, slo α c t w → w ≠ -1 → ¬ ∀ k, 0 ≤ k → k < α 89 c → lt α w k = sl α g c k) → K_X12_isRight_111 G l (d + 10) P g t (lenS α c.toNat) c f 0 z := by
    intro c z hc fz nxt f hf hf1 hf0
    have c0 := hc.1
    have c1 := hc.2.1
    have e20 : z 74 20 = α 74 20 := (kx z fz).2.2.2.2.2.2.2 20 (by decide) (by decide)
    have e108 : z 108 = m3 108 := fz.k 108 (by decide)
    have bad : (∀ w, pos α c w t → ¬ ∀ k, 0 ≤ k → k < α 89 c → lt α w k = sl α g c k) → (∀ w, slo α c t w → w ≠ -1 → ¬ ∀ k, 0 ≤ k → k < α 89 c → lt α w k = sl α g c k) → P 0 z := fun p1 p2 => h 0 z (kf z fz) (kk z fz) (Or.inr ⟨rfl, fun q2 => by
      obtain ⟨w, q4, q5⟩ := (q2.2.2 c hc).1
      rcases q4 with ⟨u1, u2⟩ | u
      · exact p2 w u1 u2 q5
      · exact p1 w u q5⟩)
    have main : ∀ (n : Nat) (v f : Int), v + n = α 74 20 → 0 ≤ v → (f = 0 ∨ f = 1) → (f = 1 → ansd α t g c) → (f = 0 → (∀ w, slo α c t w → w ≠ -1 → ¬ ∀ k, 0 ≤ k → k < α 89 c → lt α w k = sl α g c k) ∧ ∀ w, w < v → pos α c w t → ¬ ∀ k, 0 ≤ k → k < α 89 c → lt α w k = sl α g c k) → K_X12_isRight_111 G l (d + 10) P g t (lenS α c.toNat) c f v z := by
      intro n
      induction n with
      | zero =>
        intro v f hv v0 hf hf1 hf0
        apply B_X12_isRight_111
        rw [e20]
        refine ⟨by omega, by omega, fun _ => ⟨by omega, fun q => nxt (hf1 (by omega)), fun q => bad (fun w hw => ?_) (hf0 q).1⟩, fun q => by omega⟩
        have := (pos_w hw).1.2
        exact (hf0 q).2 w (by omega) hw
      | succ n ih =>
        intro v f hv v0 hf hf1 hf0
        apply B_X12_isRight_111
        rw [e20, e108, hcan c v c0 c1 v0 (by omega)]
        have i01 := ind_01 (pos α c v t)
        refine ⟨by omega, by omega, fun q => by omega, fun _ => ⟨by omega, fun q => ⟨fun _ => nxt (hf1 (by omega)), fun q2 => absurd q2 q⟩, fun q => ⟨by omega, by omega, fun q2 => ?_, fun q2 => ?_⟩⟩⟩
        · have np := ind_eq.mp q2
          exact ih (v + 1) 0 (by omega) (by omega) (Or.inl rfl) (fun q4 => absurd q4 (by decide)) (fun _ => ⟨(hf0 q).1, fun w w1 hp => by
            rcases (show w < v ∨ w = v by omega) with u | u
            · exact (hf0 q).2 w u hp
            · rw [u] at hp; exact absurd hp np⟩)
        · have np := ind_ne.mp q2
          refine s_isSent hG hR hW hg e ((kx z fz).2.2.2.2.2.2.k 76 (by decide) (by decide)) ((kx z fz).2.2.2.2.2.2.k 77 (by decide) (by decide)) (k126 z fz) hc (pos_w np) (fun r hr => ⟨fun q4 => ih (v + 1) 0 (by omega) (by omega) (Or.inl rfl) (fun q4 => absurd q4 (by decide)) (fun _ => ⟨(hf0 q).1, fun w w1 hp => ?_⟩), fun q4 => ih (v + 1) 1 (by omega) (by omega) (Or.inr rfl) (fun _ => ⟨v, Or.inr np, (bitne hr).mp q4⟩) (fun q5 => absurd q5 (by decide))⟩)
          rcases (show w < v ∨ w = v by omega) with u | u
          · exact (hf0 q).2 w u hp
          · rw [u]; exact (bit0 hr).mp q4
    exact main (α 74 20).toNat 0 f (by omega) (by omega) hf hf1 (fun q => ⟨hf0 q, fun w w1 hp => by have := (pos_w hp).1.1; omega⟩)
  have k56 : ∀ (n v : Nat) (z : xMem), v + n = 16 → FrX [129] [] m3 z → wrt α z g v 0 → (∀ c, lit α c → c < v → ansd α t g c ∧ alik α g c 9) → K_X12_isRight_56 G l (d + 10) P g t (lenS α v) (v : Int) z := by
    intro n
    induction n with
    | zero =>
      intro v z hv fz hw hi
      apply B_X12_isRight_56
      exact ⟨by omega, fun _ => h 1 z (kf z fz) (kk z fz) (Or.inl ⟨rfl, q, e, fun c hc => hi c hc (by have := hc.2.1; omega)⟩), fun q => by omega⟩
    | succ n ih =>
      intro v z hv fz hw hi
      have h01 := (hG.1.1 (v : Int) (by omega) (by omega)).1
      have hxz := kx z fz
      apply B_X12_isRight_56
      rw [hxz.2.2.2.2.1]
      refine ⟨by omega, fun q2 => by omega, fun _ => ⟨by omega, by omega, fun q2 => ?_, fun q2 => ?_⟩⟩
      · have hc : lit α (v : Int) := ⟨by omega, by omega, by omega⟩
        have a1 : z 74 67 = α 74 67 := ((fz.f 74 67 (by decide)).trans (f3.f 74 67 (by decide))).trans e67
        have a2 : z 114 = α 114 := ((fz.k 114 (by decide)).trans (f3.k 114 (by decide))).trans e114
        have a3 : z 115 = α 115 := ((fz.k 115 (by decide)).trans (f3.k 115 (by decide))).trans e115
        have a4 : z 116 = α 116 := ((fz.k 116 (by decide)).trans (f3.k 116 (by decide))).trans e116
        have go := k111 v z hc fz (fun han => k175 v z hc fz han hw (fun z' fz' ha hw' => by
          have := ih (v + 1) z' (by omega) fz' (by rw [show ((v + 1 : Nat) : Int) = (v : Int) + 1 by omega]; exact hw') (fun c hc' c1 => by
            rcases (show c < (v : Int) ∨ c = v by omega) with u | u
            · exact hi c hc' u
            · rw [u]; exact ⟨han, ha⟩)
          rw [show ((v + 1 : Nat) : Int) = (v : Int) + 1 by omega] at this
          exact this))
        rw [show ((v : Int)).toNat = v by omega] at go
        refine s_mSolutionOf hW hL a1 a2 a3 a4 (by omega) ht (fun s hs => ⟨fun q4 => go 0 (Or.inl rfl) (fun q5 => absurd q5 (by decide)) (fun _ w hw w1 => ?_), fun q4 => ?_⟩)
        · have := slo_u hw hs
          have := slo_b hW hL hs
          omega
        · have sw := slo_w hL hs (by omega)
          have se := s_isSent (P := fun r12 m13 => ((r12 = 0 → K_X12_isRight_111 G l (d + 10) P g t (lenS α v) v 0 0 m13) ∧ (r12 ≠ 0 → K_X12_isRight_111 G l (d + 10) P g t (lenS α v) v 1 0 m13))) (G := G) (l := l) (d := d + 7) hG hR hW hg e (hxz.2.2.2.2.2.2.k 76 (by decide) (by decide)) (hxz.2.2.2.2.2.2.k 77 (by decide) (by decide)) (k126 z fz) hc sw (fun r hr => ⟨fun q5 => go 0 (Or.inl rfl) (fun q5 => absurd q5 (by decide)) (fun _ w hw _ => ?_), fun q5 => go 1 (Or.inr rfl) (fun _ => ⟨s, Or.inl ⟨hs, by omega⟩, (bitne hr).mp q5⟩) (fun q6 => absurd q6 (by decide))⟩)
          · exact se
          · rw [slo_u hw hs]; exact (bit0 hr).mp q5
      · have hc : ¬ lit α (v : Int) := fun q4 => by have := q4.2.2; omega
        have ev := (len_b hG (c := (v : Int)) (by omega) (by omega)).2.2.2 hc
        have := ih (v + 1) z (by omega) fz (by rw [show ((v + 1 : Nat) : Int) = (v : Int) + 1 by omega]; exact wrt_no hc hw) (fun c hc' c1 => by
          rcases (show c < (v : Int) ∨ c = v by omega) with u | u
          · exact hi c hc' u
          · rw [u] at hc'; exact absurd hc' hc)
        rw [lenS, ev, Int.add_zero, show ((v + 1 : Nat) : Int) = (v : Int) + 1 by omega] at this
        exact this
  have k32 : ∀ (n : Nat) (v : Int) (z : xMem), v + n = 81 → 0 ≤ v → FrX [129] [] m3 z → (∀ x, 0 ≤ x → x < v → z 129 x = 0) → K_X12_isRight_32 G l (d + 10) P g t v z := by
    intro n
    induction n with
    | zero =>
      intro v z hv v0 fz hz
      apply B_X12_isRight_32
      exact ⟨by omega, fun _ => k56 16 0 z (by omega) fz (fun x x0 x1 => Or.inl ⟨hz x x0 (by omega), fun o k ho hk => by have := ho.1; omega⟩) (fun c hc c1 => by have := hc.1; omega), fun q => by omega⟩
    | succ n ih =>
      intro v z hv v0 fz hz
      apply B_X12_isRight_32
      refine ⟨by omega, fun q => by omega, fun _ => ⟨by omega, ih (v + 1) _ (by omega) (by omega) ((fz.tr FrX.sa).sub (by decide) (by decide)) (fun x x0 x1 => ?_)⟩⟩
      rw [st_i]
      by_cases q : x = v
      · rw [if_pos q]
      · rw [if_neg q]; exact hz x x0 (by omega)
  exact k32 81 0 m3 (by omega) (by omega) FrX.rf (fun x x0 x1 => by omega)
theorem bit_u {a b : Int} {p : Prop} (h1 : bit a p) (h2 : bit b p) : a = b := by rw [bit_ind h1, bit_ind h2]
theorem op_right (hI : INV N μ) (hN9 : 0 ≤ N ∧ N ≤ 600) {g : Int} (hg : iR g) (ht : iR t) : SIM G l (d + 60) mX11_right mX12_right [xi g, xi t] N μ := by
  obtain ⟨hT, hD, hO, hW, hM, hS, hC, hL, hF, hU, hR, hG, hK, hP, hN⟩ := id hI
  have hX : XW μ := ⟨hW, hM, hS, hC, hD⟩
  have nb := hN.2.1
  have gb := hR.2.1
  unfold SIM
  have out : ¬ (0 ≤ g ∧ g < μ 74 81) → CI G l (d + 60) mX12_right [xr G 74, xi g, xi t] μ (fun r' m' => -1 = r' ∧ INV (N + 1) m') := by
    intro hn
    have f2 : FrX [] [(74, 0)] μ (st2 μ 74 0 0) := FrX.st
    apply E_X12_right
    refine s_isIn hg (by decide) (by omega) (fun r hr => ⟨fun q => ⟨rfl, ?_⟩, fun q => ?_⟩)
    · exact hI.q (m1 := μ) FrX.rf (f2.sub (by decide) (by decide)) hP hN.1 (by omega) hN.2.2 (hK.kept (MA.of f2 (by decide)) f2 (by decide))
    · have := (bitne hr).mp q
      omega
  apply E_X11_right
  rw [hR.1]
  refine ⟨hg, fun q => out (by omega), fun q => ⟨by omega, fun q2 => ?_, fun q2 => out (by omega)⟩⟩
  refine s_recallLights ht hX hP hG hN.1 (by omega) hN.2.2 (fun m1 f1 g1 s1 b1 c1 l1 => ?_)
  refine s_isRight hG hR hW hL ⟨q, q2⟩ f1 ht l1 FrX.rf hD (fun r z fz hr => ?_)
  have f01 := f1.tr fz
  have gz : gP z := g1.kept (MA.of fz (by decide)) fz (by decide)
  have fx : FrX Sx Tx μ z := f01.sub (by decide) (by decide)
  have mdl : CI G l (d + 60) mX12_right [xr G 74, xi g, xi t] z (fun r' m' => ind (rgt μ g t) = r' ∧ INV (N + 1) m') := by
    have f2 : FrX [] [(74, 0)] z (st2 z 74 0 0) := FrX.st
    apply E_X12_right
    rw [f01.f 74 81 (by decide)]
    generalize st2 z 74 0 0 = z2 at *
    have f02 := f01.tr f2
    refine s_isIn hg (by decide) (by omega) (fun r3 hr3 => ⟨fun q3 => ?_, fun q3 => ?_⟩)
    · have := (bit0 hr3).mp q3
      omega
    · refine s_mIsRight hN9 hG hR hW hL (hX.kept f02 (by decide)) (hK.kept (MA.of f02 (by decide)) f02 (by decide)) (mG.of f02 (by decide)) hD ⟨q, q2⟩ ht (f02.f 74 67 (by decide)) (f02.k 114 (by decide)) (f02.k 115 (by decide)) (f02.k 116 (by decide)) (f02.k 126 (by decide)) (f02.k 127 (by decide)) (f02.k 128 (by decide)) (fun r5 z5 f5 k5 h5 => ?_)
      have fin : INV (N + 1) z5 := hI.q fx ((f2.tr f5).sub (by decide) (by decide)) gz (by unfold StB at *; rw [fz.f 27 6 (by decide), fz.k 28 (by decide)]; exact s1) (by rw [fz.f 27 6 (by decide)]; omega) (by rw [fz.f 37 0 (by decide)]; exact c1) k5
      exact ⟨fun q6 => ⟨ind_eq.mpr ((bit0 h5).mp q6), fin⟩, fun q6 => ⟨ind_t ((bitne h5).mp q6), fin⟩⟩
  refine ⟨fun q3 => ?_, fun q3 => ?_⟩
  · rw [ind_f ((bit0 hr).mp q3)] at mdl; exact mdl
  · rw [ind_t ((bitne hr).mp q3)] at mdl; exact mdl
theorem op_winner (hI : INV N μ) (hN9 : 0 ≤ N ∧ N ≤ 600) (ht : iR t) : SIM G l (d + 60) mX11_winner mX12_winner [xi t] N μ := by
  obtain ⟨hT, hD, hO, hW, hM, hS, hC, hL, hF, hU, hR, hG, hK, hP, hN⟩ := id hI
  have hX : XW μ := ⟨hW, hM, hS, hC, hD⟩
  have nb := hN.2.1
  have gb := hR.2.1
  unfold SIM
  apply E_X11_winner
  refine s_recallLights ht hX hP hG hN.1 (by omega) hN.2.2 (fun m1 f1 g1 s1 b1 c1 l1 => ?_)
  have mdl : ∀ (z : xMem) (w : Int), FrX [73] [] m1 z → (w = -1 ∧ (∀ g, 0 ≤ g → g < μ 74 81 → ¬ rgt μ g t)) ∨ ((0 ≤ w ∧ w < μ 74 81) ∧ rgt μ w t ∧ ∀ g, 0 ≤ g → g < w → ¬ rgt μ g t) → CI G l (d + 60) mX12_winner [xr G 74, xi t] z (fun r' m' => w = r' ∧ INV (N + 1) m') := by
    intro z w fz hw
    have f01 := f1.tr fz
    have gz : gP z := g1.kept (MA.of fz (by decide)) fz (by decide)
    have fx : FrX Sx Tx μ z := f01.sub (by decide) (by decide)
    have f2 : FrX [] [(74, 0)] z (st2 z 74 0 0) := FrX.st
    apply E_X12_winner
    have main : ∀ (n : Nat) (v : Int) (x : xMem), v + n = μ 74 81 → 0 ≤ v → FrX (129 :: Sf) ((74, 0) :: Tf) z x → gK N x → (∀ g, 0 ≤ g → g < v → ¬ rgt μ g t) → K_X12_winner_7 G l (d + 60) (fun r' m' => w = r' ∧ INV (N + 1) m') t v x := by
      intro n
      induction n with
      | zero =>
        intro v x hv v0 fx' kx hi
        apply B_X12_winner_7
        rw [(f01.tr fx').f 74 81 (by decide)]
        refine ⟨by omega, by omega, fun _ => ⟨?_, hI.q fx (fx'.sub (by decide) (by decide)) gz (by unfold StB at *; rw [fz.f 27 6 (by decide), fz.k 28 (by decide)]; exact s1) (by rw [fz.f 27 6 (by decide)]; omega) (by rw [fz.f 37 0 (by decide)]; exact c1) kx⟩, fun q => by omega⟩
        rcases hw with u | ⟨u1, u2, u3⟩
        · exact u.1
        · exact absurd u2 (hi w u1.1 (by omega))
      | succ n ih =>
        intro v x hv v0 fx' kx hi
        have f02 := f01.tr fx'
        apply B_X12_winner_7
        rw [f02.f 74 81 (by decide)]
        refine ⟨by omega, by omega, fun q => by omega, fun _ => s_mIsRight hN9 hG hR hW hL (hX.kept f02 (by decide)) kx (mG.of f02 (by decide)) hD ⟨v0, by omega⟩ ht (f02.f 74 67 (by decide)) (f02.k 114 (by decide)) (f02.k 115 (by decide)) (f02.k 116 (by decide)) (f02.k 126 (by decide)) (f02.k 127 (by decide)) (f02.k 128 (by decide)) (fun r5 z5 f5 k5 h5 => ?_)⟩
        have g5 : FrX (129 :: Sf) ((74, 0) :: Tf) z z5 := (fx'.tr f5).sub (by decide) (by decide)
        refine ⟨fun q => ih (v + 1) z5 (by omega) (by omega) g5 k5 (fun g g0 g1 => ?_), fun q => ⟨?_, hI.q fx (g5.sub (by decide) (by decide)) gz (by unfold StB at *; rw [fz.f 27 6 (by decide), fz.k 28 (by decide)]; exact s1) (by rw [fz.f 27 6 (by decide)]; omega) (by rw [fz.f 37 0 (by decide)]; exact c1) k5⟩⟩
        · rcases (show g < v ∨ g = v by omega) with u | u
          · exact hi g g0 u
          · rw [u]; exact (bit0 h5).mp q
        · have hv5 := (bitne h5).mp q
          rcases hw with u | ⟨u1, u2, u3⟩
          · exact absurd hv5 (u.2 v v0 (by omega))
          · rcases (show w < v ∨ w = v ∨ v < w by omega) with y | y | y
            · exact absurd u2 (hi w u1.1 y)
            · exact y
            · exact absurd hv5 (u3 v v0 y)
    exact main (μ 74 81).toNat 0 _ (by omega) (by omega) (f2.sub (by decide) (by decide)) (hK.kept (MA.of (f01.tr f2) (by decide)) (f01.tr f2) (by decide)) (fun g g0 g1 => by omega)
  have main : ∀ (n : Nat) (v : Int) (z : xMem), v + n = μ 74 81 → 0 ≤ v → FrX [73] [] m1 z → (∀ g, 0 ≤ g → g < v → ¬ rgt μ g t) → K_X11_winner_14 G l (d + 60) (fun r m' => CI G l (d + 60) mX12_winner [xr G 74, xi t] m' (fun r' m' => r = r' ∧ INV (N + 1) m')) t v z := by
    intro n
    induction n with
    | zero =>
      intro v z hv v0 fz hi
      apply B_X11_winner_14
      rw [(f1.tr fz).f 68 2 (by decide), hR.1]
      exact ⟨by omega, by omega, fun _ => mdl z (-1) fz (Or.inl ⟨rfl, fun g g0 g1 => hi g g0 (by omega)⟩), fun q => by omega⟩
    | succ n ih =>
      intro v z hv v0 fz hi
      apply B_X11_winner_14
      rw [(f1.tr fz).f 68 2 (by decide), hR.1]
      refine ⟨by omega, by omega, fun q => by omega, fun _ => s_isRight hG hR hW hL ⟨v0, by omega⟩ f1 ht l1 fz hD (fun r z' fz' hr => ⟨fun q => ih (v + 1) z' (by omega) (by omega) fz' (fun g g0 g1 => ?_), fun q => mdl z' v fz' (Or.inr ⟨⟨v0, by omega⟩, (bitne hr).mp q, hi⟩)⟩)⟩
      rcases (show g < v ∨ g = v by omega) with u | u
      · exact hi g g0 u
      · rw [u]; exact (bit0 hr).mp q
  exact main (μ 74 81).toNat 0 m1 (by omega) (by omega) FrX.rf (fun g g0 g1 => by omega)
end Right
