/-! the grid: cells, crossings, letters; who agrees with what is entered; what is left -/
section Geo
variable {G : xG} {l : Launch} {d : Nat} {μ ν α m : xMem} {P : Int → xMem → Prop} {PV' : xMem → Prop} {N : Int}
theorem cel_b {c k : Int} (hw : wfG α) (hc : lit α c) (h0 : 0 ≤ k) (h1 : k < α 89 c) : 0 ≤ cel α c k ∧ cel α c k < 81 := by
  obtain ⟨a1, a2, a3, a4⟩ := hw.2.1 c hc
  unfold cel
  split
  · rename_i e; rw [if_pos e] at a4; omega
  · rename_i e; rw [if_neg e] at a4; omega
theorem crs_uniq {c o k k' k2 k2' : Int} (hw : wfG α) (h : crs α c o k k') (h2 : crs α c o k2 k2') : k = k2 ∧ k' = k2' := by
  obtain ⟨lc, lo, dn, b1, b2, e⟩ := h
  obtain ⟨-, -, -, b3, b4, e2⟩ := h2
  obtain ⟨a1, a2, a3, a4⟩ := hw.2.1 c lc
  obtain ⟨c1, c2, c3, c4⟩ := hw.2.1 o lo
  have d1 := (hw.1 c lc.1 lc.2.1).2
  have d2 := (hw.1 o lo.1 lo.2.1).2
  unfold cel at e e2
  rcases d1 with x | x <;> rcases d2 with y | y <;> simp [x, y] at * <;> omega
/-- the class's grid is that of α -/
def xG' (α m : xMem) : Prop := m 47 = α 47 ∧ m 48 = α 48 ∧ m 49 = α 49 ∧ m 53 = α 53 ∧ m 13 = α 13
theorem xG'.of {S : List Nat} {T : List (Nat × Int)} (hf : FrX S T α m) (hd : dj [47, 48, 49, 53, 13] [] S T = true) : xG' α m := ⟨hf.a hd (by decide), hf.a hd (by decide), hf.a hd (by decide), hf.a hd (by decide), hf.a hd (by decide)⟩
theorem s_cellOf {c k : Int} (hG : gG α) (hx : xG' α m) (hc : lit α c) (h0 : 0 ≤ k) (h1 : k < α 89 c) (h : P (cel α c k) m) : CI G l (d + 1) mX2_cellOf [xr G 46, xi c, xi k] m P := by
  obtain ⟨r1, r2⟩ := hG.2.1.2.1 c hc
  have hb := cel_b hG.1 hc h0 h1
  have e : α 47 c + k * α 48 c = cel α c k := by
    rw [r1, r2]
    unfold cel
    split <;> omega
  apply E_X2_cellOf
  rw [hx.1, hx.2.1, e]
  exact ⟨⟨hc.1, hc.2.1⟩, by omega, h⟩
theorem s_crossingOf {c o : Int} (hG : gG α) (hx : xG' α m) (hc : 0 ≤ c ∧ c < 16) (ho : 0 ≤ o ∧ o < 16) (h : ∀ r, (r = -1 ∧ ∀ k k', ¬ crs α c o k k') ∨ (r ≠ -1 ∧ ∃ k', crs α c o r k') → P r m) : CI G l (d + 1) mX2_crossingOf [xr G 46, xi c, xi o] m P := by
  have q := hG.2.1.2.2.2.1 c o hc.1 hc.2 ho.1 ho.2
  apply E_X2_crossingOf
  rw [hx.2.2.2.1]
  rcases q with ⟨q1, q2⟩ | ⟨k', q⟩
  · exact ⟨by omega, by omega, h _ (Or.inl ⟨q1, q2⟩)⟩
  · have b := q.2.2.2.1
    have b2 := (hG.1.2.1 c q.1).2.2.1
    exact ⟨by omega, by omega, h _ (Or.inr ⟨by omega, k', q⟩)⟩
def lt (α : xMem) (w k : Int) : Int := α 76 (10 * w + k)
theorem lt_b {w k : Int} (hw : wfW α) (h : 0 ≤ w ∧ w < α 74 20) (h0 : 0 ≤ k) (h1 : k < α 77 w) : 97 ≤ lt α w k ∧ lt α w k ≤ 122 := (hw.2 w h.1 h.2).2 k h0 h1
theorem s_letterAt {w k : Int} (hW : gW α) (hx : xG' α m) (hw : 0 ≤ w ∧ w < α 74 20) (h0 : 0 ≤ k) (h1 : k < α 77 w) (h : P (lt α w k) m) : CI G l (d + 1) mX3_letterAt [xr G 3, xi w, xi k] m P := by
  have hb := hW.1.1
  have b := lt_b hW.1 hw h0 h1
  have lw := (hW.1.2 w hw.1 hw.2).1
  have e := (hW.2.2.1.2 w hw.1 hw.2).2 k h0 h1
  apply E_X3_letterAt
  rw [hx.2.2.2.2, show w * 10 + k = 10 * w + k by omega, e]
  exact ⟨by omega, by unfold lt at b; omega, h⟩
theorem s_letterOf {w k : Int} (hW : gW α) (e76 : m 76 = α 76) (hw : 0 ≤ w ∧ w < α 74 20) (h0 : 0 ≤ k) (h1 : k < α 77 w) (h : P (lt α w k) m) : CI G l (d + 1) mX12_letterOf [xr G 74, xi w, xi k] m P := by
  have hb := hW.1.1
  have b := lt_b hW.1 hw h0 h1
  have lw := (hW.1.2 w hw.1 hw.2).1
  apply E_X12_letterOf
  rw [e76]
  exact ⟨by omega, by unfold lt at b; omega, h⟩
/-- the model's grid is that of α -/
def mG (α m : xMem) : Prop := m 109 = α 109 ∧ m 110 = α 110 ∧ m 111 = α 111 ∧ m 112 = α 112 ∧ m 117 = α 117 ∧ m 118 = α 118 ∧ MA α m
theorem mG.of {S : List Nat} {T : List (Nat × Int)} (hf : FrX S T α m) (hd : dj [109, 110, 111, 112, 117, 118, 76, 77, 78, 79, 80, 81, 82, 83, 84, 85, 86, 87, 88, 89] [(74, 20), (74, 21), (74, 22), (74, 23)] S T = true) : mG α m := ⟨hf.a hd (by decide), hf.a hd (by decide), hf.a hd (by decide), hf.a hd (by decide), hf.a hd (by decide), hf.a hd (by decide), MA.of hf (dj_sub hd (by decide) (by decide))⟩
theorem mG.kept {S : List Nat} {T : List (Nat × Int)} (h : mG α m) (hf : FrX S T m ν) (hd : dj [109, 110, 111, 112, 117, 118, 76, 77, 78, 79, 80, 81, 82, 83, 84, 85, 86, 87, 88, 89] [(74, 20), (74, 21), (74, 22), (74, 23)] S T = true) : mG α ν := by
  obtain ⟨h1, h2, h3, h4, h5, h6, h7⟩ := h
  obtain ⟨g1, g2, g3, g4, g5, g6, g7⟩ := mG.of hf hd
  exact ⟨g1.trans h1, g2.trans h2, g3.trans h3, g4.trans h4, g5.trans h5, g6.trans h6, h7.tr g7⟩
theorem s_mCellOf {c k : Int} (hG : gG α) (hx : mG α m) (hc : lit α c) (h0 : 0 ≤ k) (h1 : k < α 89 c) (h : P (cel α c k) m) : CI G l (d + 1) mX12_cellOf [xr G 74, xi c, xi k] m P := by
  have hb := cel_b hG.1 hc h0 h1
  have d1 := (hG.1.1 c hc.1 hc.2.1).2
  apply E_X12_cellOf
  rw [hx.1, hx.2.1, hx.2.2.2.2.2.1]
  unfold cel at h hb
  refine ⟨⟨hc.1, hc.2.1⟩, by omega, fun z => ?_, fun z => ?_⟩
  · rw [if_neg (by omega)] at h hb
    exact ⟨by omega, h⟩
  · rw [if_pos (by omega)] at h hb
    exact ⟨by omega, h⟩
/-- who else has the cell, and where -/
theorem s_other {c k : Int} (hG : gG α) (hx : mG α m) (hc : lit α c) (h0 : 0 ≤ k) (h1 : k < α 89 c) (h : ∀ o, (o = -1 ∧ ∀ o' k', ¬ crs α c o' k k') ∨ (0 ≤ o ∧ (∃ k', crs α c o k k') ∧ ∀ o' k', crs α c o' k k' → o' = o) → P o m) : CI G l (d + 1) mX12_other [xr G 74, xi c, xi (cel α c k)] m P := by
  have hb := cel_b hG.1 hc h0 h1
  have d1 := (hG.1.1 c hc.1 hc.2.1).2
  obtain ⟨w1, w2, -, -⟩ := hG.1.2.2.1 _ hb.1 hb.2
  have key : ∀ o' k', crs α c o' k k' → (α 118 c = 0 → α 112 (cel α c k) = o' + 1) ∧ (α 118 c ≠ 0 → α 111 (cel α c k) = o' + 1) := by
    intro o' k' q
    obtain ⟨_, lo, dn, _, b2, e⟩ := q
    have d2 := (hG.1.1 o' lo.1 lo.2.1).2
    obtain ⟨s1, s2⟩ := hG.1.2.2.2 o' k' lo b2.1 b2.2
    rw [e]
    exact ⟨fun z => s2 (by omega), fun z => s1 (by omega)⟩
  apply E_X12_other
  rw [hx.2.2.1, hx.2.2.2.1, hx.2.2.2.2.2.1]
  refine ⟨⟨hc.1, hc.2.1⟩, by omega, fun z => ⟨by omega, by omega, h _ ?_⟩, fun z => ⟨by omega, by omega, h _ ?_⟩⟩
  · rcases (show α 112 (cel α c k) = 0 ∨ 0 < α 112 (cel α c k) by omega) with y | y
    · refine Or.inl ⟨by omega, fun o' k' q => ?_⟩
      have := (key o' k' q).1 z
      have := q.2.1.1
      omega
    · obtain ⟨s1, s2, k', k0, k1, k2⟩ := (hG.1.2.2.1 _ hb.1 hb.2).2.2.2 y
      refine Or.inr ⟨by omega, ⟨k', hc, s1, by omega, ⟨h0, h1⟩, ⟨k0, k1⟩, k2.symm⟩, fun o' k' q => ?_⟩
      have := (key o' k' q).1 z
      omega
  · rcases (show α 111 (cel α c k) = 0 ∨ 0 < α 111 (cel α c k) by omega) with y | y
    · refine Or.inl ⟨by omega, fun o' k' q => ?_⟩
      have := (key o' k' q).2 z
      have := q.2.1.1
      omega
    · obtain ⟨s1, s2, k', k0, k1, k2⟩ := (hG.1.2.2.1 _ hb.1 hb.2).2.2.1 y
      refine Or.inr ⟨by omega, ⟨k', hc, s1, by omega, ⟨h0, h1⟩, ⟨k0, k1⟩, k2.symm⟩, fun o' k' q => ?_⟩
      have := (key o' k' q).2 z
      omega
theorem s_placeIn {c o k k' : Int} (hG : gG α) (hx : mG α m) (hq : crs α c o k k') (h : P k' m) : CI G l (d + 1) mX12_placeIn [xr G 74, xi o, xi (cel α c k)] m P := by
  obtain ⟨lc, lo, dn, b1, b2, e⟩ := hq
  have hb := cel_b hG.1 lo b2.1 b2.2
  have d2 := (hG.1.1 o lo.1 lo.2.1).2
  obtain ⟨c1, c2, c3, c4⟩ := hG.1.2.1 o lo
  rw [e]
  apply E_X12_placeIn
  rw [hx.1, hx.2.1, hx.2.2.2.2.2.1]
  unfold cel at hb ⊢
  refine ⟨⟨lo.1, lo.2.1⟩, by omega, fun z => ?_, fun z => ?_⟩
  · rw [if_neg (by omega)] at hb c4 ⊢
    have e2 : (9 * α 109 o + α 110 o + k') % 9 - α 110 o = k' := by omega
    rw [e2]
    exact ⟨by omega, by omega, h⟩
  · rw [if_pos (by omega)] at hb c4 ⊢
    have e2 : (9 * (α 109 o + k') + α 110 o) / 9 - α 109 o = k' := by omega
    rw [e2]
    exact ⟨by omega, by omega, h⟩
/-- a word agrees with what is entered -/
def agr (α : xMem) (e : Int → Int) (c w : Int) : Prop := ∀ k, 0 ≤ k → k < α 89 c → e (cel α c k) ≠ 0 → e (cel α c k) + 96 = lt α w k
def eOk (e : Int → Int) : Prop := ∀ x, 0 ≤ x → x < 81 → 0 ≤ e x ∧ e x ≤ 26
theorem s_agrees {c w : Int} {e : Int → Int} (hG : gG α) (hW : gW α) (hx : xG' α m) (h52 : ∀ x, 0 ≤ x → x < 81 → m 52 x = e x) (he : eOk e) (hc : lit α c) (hw : 0 ≤ w ∧ w < α 74 20) (hl : α 77 w = α 89 c) (h : ∀ r, bit r (agr α e c w) → P r m) : CI G l (d + 2) mX10_agrees [xr G 58, xi c, xi w] m P := by
  have e49 : m 49 c = α 89 c := by rw [hx.2.2.1, hG.2.1.1 c hc.1 hc.2.1, if_pos hc.2.2]
  have lb := (hG.1.2.1 c hc).2.2.1
  have c0 := hc.1
  have c1 := hc.2.1
  apply E_X10_agrees
  have main : ∀ (n : Nat) (v : Int), v + n = α 89 c → 0 ≤ v → (∀ k, 0 ≤ k → k < v → e (cel α c k) ≠ 0 → e (cel α c k) + 96 = lt α w k) → K_X10_agrees_2 G l (d + 2) P c w v m := by
    intro n
    induction n with
    | zero =>
      intro v hv v0 hi
      apply B_X10_agrees_2
      rw [e49]
      exact ⟨by omega, by omega, by omega, fun _ => h 1 (Or.inl ⟨rfl, fun k k0 k1 => hi k k0 (by omega)⟩), fun z => by omega⟩
    | succ n ih =>
      intro v hv v0 hi
      have hb := cel_b hG.1 hc v0 (show v < α 89 c by omega)
      have eb := he _ hb.1 hb.2
      have lt1 := lt_b hW.1 hw v0 (show v < α 77 w by omega)
      have nx : (e (cel α c v) ≠ 0 → e (cel α c v) + 96 = lt α w v) → K_X10_agrees_2 G l (d + 2) P c w (v + 1) m := fun hq => ih (v + 1) (by omega) (by omega) (fun k k0 k1 => by
        rcases (show k < v ∨ k = v by omega) with q | q
        · exact hi k k0 q
        · rw [q]; exact hq)
      apply B_X10_agrees_2
      rw [e49]
      refine ⟨by omega, by omega, by omega, fun z => by omega, fun _ => s_cellOf hG hx hc v0 (by omega) ?_⟩
      rw [h52 _ hb.1 hb.2]
      refine ⟨by omega, by omega, fun z => nx (fun q => absurd z q), fun z => s_letterAt hW hx hw v0 (by omega) ⟨by omega, fun y => nx (fun _ => by omega), fun y => h 0 (Or.inr ⟨rfl, fun q => y ?_⟩)⟩⟩
      have := q v v0 (by omega) z
      omega
  exact main (α 89 c).toNat 0 (by omega) (by omega) (fun k k0 k1 => by omega)
theorem s_mAgrees {c w : Int} {e : Int → Int} (hG : gG α) (hW : gW α) (hx : mG α m) (h113 : ∀ x, 0 ≤ x → x < 81 → m 113 x = e x) (he : eOk e) (hc : lit α c) (hw : 0 ≤ w ∧ w < α 74 20) (hl : α 77 w = α 89 c) (h : ∀ r, bit r (agr α e c w) → P r m) : CI G l (d + 2) mX12_agrees [xr G 74, xi c, xi w] m P := by
  have e89 : m 89 = α 89 := hx.2.2.2.2.2.2.k 89 (by decide) (by decide)
  have e76 : m 76 = α 76 := hx.2.2.2.2.2.2.k 76 (by decide) (by decide)
  have lb := (hG.1.2.1 c hc).2.2.1
  have c0 := hc.1
  have c1 := hc.2.1
  apply E_X12_agrees
  have main : ∀ (n : Nat) (v : Int), v + n = α 89 c → 0 ≤ v → (∀ k, 0 ≤ k → k < v → e (cel α c k) ≠ 0 → e (cel α c k) + 96 = lt α w k) → K_X12_agrees_2 G l (d + 2) P c w v m := by
    intro n
    induction n with
    | zero =>
      intro v hv v0 hi
      apply B_X12_agrees_2
      rw [e89]
      exact ⟨by omega, by omega, by omega, fun _ => h 1 (Or.inl ⟨rfl, fun k k0 k1 => hi k k0 (by omega)⟩), fun z => by omega⟩
    | succ n ih =>
      intro v hv v0 hi
      have hb := cel_b hG.1 hc v0 (show v < α 89 c by omega)
      have eb := he _ hb.1 hb.2
      have lt1 := lt_b hW.1 hw v0 (show v < α 77 w by omega)
      have nx : (e (cel α c v) ≠ 0 → e (cel α c v) + 96 = lt α w v) → K_X12_agrees_2 G l (d + 2) P c w (v + 1) m := fun hq => ih (v + 1) (by omega) (by omega) (fun k k0 k1 => by
        rcases (show k < v ∨ k = v by omega) with q | q
        · exact hi k k0 q
        · rw [q]; exact hq)
      apply B_X12_agrees_2
      rw [e89]
      refine ⟨by omega, by omega, by omega, fun z => by omega, fun _ => s_mCellOf hG hx hc v0 (by omega) ?_⟩
      rw [h113 _ hb.1 hb.2]
      refine ⟨by omega, by omega, fun z => nx (fun q => by omega), fun z => s_letterOf hW e76 hw v0 (by omega) ⟨by omega, fun y => nx (fun _ => y), fun y => h 0 (Or.inr ⟨rfl, fun q => y (q v v0 (by omega) (by omega))⟩)⟩⟩
  exact main (α 89 c).toNat 0 (by omega) (by omega) (fun k k0 k1 => by omega)
/-- what agrees at all; what bears what; what is left -/
def L0 (α : xMem) (t : Int) (e : Int → Int) (c w : Int) : Prop := lit α c ∧ pos α c w t ∧ agr α e c w
def brn (α : xMem) (L : Int → Int → Prop) (c w : Int) : Prop := ∀ o k k', crs α c o k k' → ∃ v, L o v ∧ lt α v k' = lt α w k
def GF (α : xMem) (t : Int) (e : Int → Int) (c w : Int) : Prop := ∃ L : Int → Int → Prop, (∀ c w, L c w → L0 α t e c w) ∧ (∀ c w, L c w → brn α L c w) ∧ L c w
theorem GF_L0 {t : Int} {e : Int → Int} {c w : Int} (h : GF α t e c w) : L0 α t e c w := by
  obtain ⟨L, h1, _, h3⟩ := h
  exact h1 c w h3
theorem GF_b {t : Int} {e : Int → Int} {c w : Int} (h : GF α t e c w) : brn α (GF α t e) c w := by
  obtain ⟨L, h1, h2, h3⟩ := h
  intro o k k' q
  obtain ⟨v, v1, v2⟩ := h2 c w h3 o k k' q
  exact ⟨v, ⟨L, h1, h2, v1⟩, v2⟩
theorem GF_max {t : Int} {e : Int → Int} {L : Int → Int → Prop} (h1 : ∀ c w, L c w → L0 α t e c w) (h2 : ∀ c w, L c w → brn α L c w) {c w : Int} (h : L c w) : GF α t e c w := ⟨L, h1, h2, h⟩
theorem L0_w {t : Int} {e : Int → Int} {c w : Int} (h : L0 α t e c w) : (0 ≤ w ∧ w < α 74 20) ∧ α 77 w = α 89 c := by
  obtain ⟨-, ⟨tl, _, q2, _, q4, _⟩, -⟩ := h
  exact ⟨q2, q4⟩
end Geo
