/-! Sheet: hidden ones, the aim, the answer -/
section SpecSheet4
variable {G : xG} {l : Launch} {d : Nat} {μ α : xMem} {P : Int → xMem → Prop} {PV' : xMem → Prop} {tl w t : Int}
theorem s_standsAt {F : Int → Int} {n st : Int} (hA : Aim μ F n) (hw : wfW α) (hS : shW α tl t μ) (h0 : 0 ≤ st) (h1 : st + n ≤ stF α tl (α 87 tl)) (h : ∀ r, bit r (∀ m, 0 ≤ m → m < n → txF α tl (st + m) = F m) → P r μ) : CI G l (d + 1) mX9_standsAt [xr G 33, xi st] μ P := by
  obtain ⟨a1, a2, a3⟩ := id hA
  have hb := st_0 hw hS (p := α 87 tl) (by have := hS.2.1; omega) (Int.le_refl _)
  apply E_X9_standsAt
  have main : ∀ (N : Nat) (v : Int), v + N = n → 0 ≤ v → (∀ m, 0 ≤ m → m < v → txF α tl (st + m) = F m) → K_X9_standsAt_2 G l (d + 1) P st v μ := by
    intro N
    induction N with
    | zero =>
      intro v hv v0 hi
      apply B_X9_standsAt_2
      rw [a1]
      exact ⟨by omega, by omega, fun _ => h 1 (Or.inl ⟨rfl, fun m m0 m1 => hi m m0 (by omega)⟩), fun z => by omega⟩
    | succ N ih =>
      intro v hv v0 hi
      obtain ⟨x1, x2, x3⟩ := tx_eq hw hS (m := st + v) (by omega) (by omega)
      obtain ⟨y1, y2, y3⟩ := a3 v v0 (by omega)
      apply B_X9_standsAt_2
      rw [a1, x1, y1]
      refine ⟨by omega, by omega, fun z => by omega, fun _ => ⟨by omega, by omega, by omega, by omega, fun e => ih (v + 1) (by omega) (by omega) (fun m m0 m1 => ?_), fun e => h 0 (Or.inr ⟨rfl, fun q => e (q v v0 (by omega))⟩)⟩⟩
      rcases (show m < v ∨ m = v by omega) with c | c
      · exact hi m m0 c
      · rw [c]; exact e
  exact main n.toNat 0 (by omega) (by omega) (fun m m0 m1 => by omega)
theorem s_isHidden {F : Int → Int} {n f e : Int} (hA : Aim μ F n) (hw : wfW α) (hS : shW α tl t μ) (hf : 0 ≤ f ∧ f ≤ e ∧ e < α 87 tl) (h : ∀ r, bit r (isHid α tl F f e n) → P r μ) : CI G l (d + 2) mX9_isHidden [xr G 33, xi f, xi e] μ P := by
  obtain ⟨a1, a2, a3⟩ := id hA
  have hs2 := hS.2.1
  apply E_X9_isHidden
  refine ⟨by omega, by omega, fun z => ⟨by omega, by omega, by omega, by omega, ?_⟩, fun z => h 0 (Or.inr ⟨rfl, fun q => by have := q.1; omega⟩)⟩
  have q1 := st_at hS (p := f) (by omega)
  have q2 := st_at hS (p := f + 1) (by omega)
  have q3 := st_at hS (p := e) (by omega)
  have q4 := st_at hS (p := e + 1) (by omega)
  have u1 := st_succ (α := α) (tl := tl) (p := f) (by omega)
  have u2 := st_succ (α := α) (tl := tl) (p := e) (by omega)
  have b0 := st_0 hw hS (p := f) (by omega) (by omega)
  have b1 := st_le hw hS (p := e + 1) (q := α 87 tl) (by omega) (by omega) (Int.le_refl _)
  have b2 := st_le hw hS (p := f + 1) (q := e) (by omega) (by omega) (by omega)
  have b3 := st_0 hw hS (p := e + 1) (by omega) (by omega)
  have b4 := st_0 hw hS (p := e) (by omega) (by omega)
  have l1 := hS.2.2.1 f (by omega) (by omega)
  have l2 := hS.2.2.1 e (by omega) (by omega)
  have l3 := (hw.2 _ l1.2.1 l1.2.2.1).1
  have l4 := (hw.2 _ l2.2.1 l2.2.2.1).1
  rw [q1, q2, q3, q4, u2, show stF α tl (f + 1) - stF α tl f = α 77 (cwd α tl f) by omega, show stF α tl e + α 77 (cwd α tl e) - stF α tl e = α 77 (cwd α tl e) by omega]
  have main : ∀ (N : Nat) (v : Int), v + N = α 77 (cwd α tl f) → 1 ≤ v → (∀ x, 1 ≤ x → x < v → ¬ (1 ≤ n - (stF α tl e - stF α tl (f + 1)) - x ∧ n - (stF α tl e - stF α tl (f + 1)) - x < α 77 (cwd α tl e) ∧ ∀ m, 0 ≤ m → m < n → txF α tl (stF α tl (f + 1) - x + m) = F m)) → K_X9_isHidden_56 G l (d + 2) P (stF α tl (f + 1)) (α 77 (cwd α tl f)) (α 77 (cwd α tl e)) (stF α tl e - stF α tl (f + 1)) v μ := by
    intro N
    induction N with
    | zero =>
      intro v hv v0 hi
      apply B_X9_isHidden_56
      exact ⟨by omega, by omega, fun _ => h 0 (Or.inr ⟨rfl, fun ⟨_, x, x1, x2, x3, x4, x5⟩ => hi x x1 (by omega) ⟨x3, x4, x5⟩⟩), fun z => by omega⟩
    | succ N ih =>
      intro v hv v0 hi
      have nx : ∀ (hn : ¬ (1 ≤ n - (stF α tl e - stF α tl (f + 1)) - v ∧ n - (stF α tl e - stF α tl (f + 1)) - v < α 77 (cwd α tl e) ∧ ∀ m, 0 ≤ m → m < n → txF α tl (stF α tl (f + 1) - v + m) = F m)), K_X9_isHidden_56 G l (d + 2) P (stF α tl (f + 1)) (α 77 (cwd α tl f)) (α 77 (cwd α tl e)) (stF α tl e - stF α tl (f + 1)) (v + 1) μ := by
        intro hn
        refine ih (v + 1) (by omega) (by omega) (fun x x1 x2 => ?_)
        rcases (show x < v ∨ x = v by omega) with c | c
        · exact hi x x1 c
        · rw [c]; exact hn
      apply B_X9_isHidden_56
      rw [a1]
      refine ⟨by omega, by omega, fun z => by omega, fun z1 => ⟨by omega, fun y => nx (fun q => by omega), fun y => ⟨by omega, fun y2 => nx (fun q => by omega), fun y2 => s_standsAt hA hw hS (by omega) (by omega) (fun r hr => ⟨fun r0 => nx (fun q => ?_), fun r0 => h 1 (Or.inl ⟨rfl, z, v, v0, z1, y, y2, ?_⟩)⟩)⟩⟩⟩
      · rcases hr with c | c
        · omega
        · exact c.2 q.2.2
      · rcases hr with c | c
        · exact c.2
        · omega
  exact main (α 77 (cwd α tl f) - 1).toNat 1 (by omega) (by omega) (fun x x1 x2 => by omega)
/-- the answer stands in the sheet -/
def cl_Ans (α : xMem) (w : Int) (μ : xMem) : Prop := μ 33 8 = α 77 w ∧ (0 ≤ w ∧ w < α 74 20) ∧ ∀ s k, (s = 0 ∨ s = 1) → 0 ≤ k → k < α 77 w → μ 38 (s * 10 + k) = ansF α w s k
theorem ans_ab (hw : wfW α) (hv : 0 ≤ w ∧ w < α 74 20) {s k : Int} (hs : s = 0 ∨ s = 1) (h0 : 0 ≤ k) (h1 : k < α 77 w) : 97 ≤ ansF α w s k ∧ ansF α w s k ≤ 122 := by
  have hl := hw.2 w hv.1 hv.2
  unfold ansF
  split
  · exact hl.2 k h0 h1
  · exact hl.2 _ (by omega) (by omega)
def FrA (μ μ' : xMem) : Prop := ∀ k i, k ≠ 39 → (k ≠ 33 ∨ i ≠ 10) → μ' k i = μ k i
theorem s_aimAt {s a p q b : Int} (hw : wfW α) (hN : cl_Ans α w μ) (hs : s = 0 ∨ s = 1) (ha : 0 ≤ a ∧ a ≤ p ∧ p ≤ q ∧ q ≤ b ∧ b ≤ α 77 w) (hn : 1 ≤ tgL (s, a, p, q, b)) (h : ∀ μ', FrA μ μ' → Aim μ' (tgF α w (s, a, p, q, b)) (tgL (s, a, p, q, b)) → PV' μ') : CV G l (d + 1) mX9_aimAt [xr G 33, xi s, xi a, xi p, xi q, xi b] μ PV' := by
  obtain ⟨n1, n2, n3⟩ := hN
  have hl := (hw.2 w n2.1 n2.2).1
  apply E_X9_aimAt
  have hn' : 1 ≤ (b - a) - (q - p) := hn
  have main : ∀ (N : Nat) (v : Int) (ν : xMem), v + N = b → a ≤ v → FrA μ ν → ν 33 10 = (if v ≤ p then v - a else if v ≤ q then p - a else (p - a) + (v - q)) → (∀ m, 0 ≤ m → m < ν 33 10 → ν 39 m = tgF α w (s, a, p, q, b) m) → K_X9_aimAt_14 G l (d + 1) PV' p q b (s * 10) v ν := by
    intro N
    induction N with
    | zero =>
      intro v ν hv v0 hf hz hi
      have e : ν 33 10 = tgL (s, a, p, q, b) := by
        show _ = (b - a) - (q - p)
        rw [hz]
        split <;> (try split) <;> omega
      apply B_X9_aimAt_14
      refine ⟨by omega, by omega, fun _ => h ν hf ⟨e, ⟨hn, ?_⟩, fun m m0 m1 => ⟨hi m m0 (by omega), ?_⟩⟩, fun z => by omega⟩
      · show (b - a) - (q - p) ≤ 10
        omega
      · have m2 : m < (b - a) - (q - p) := m1
        unfold tgF
        simp only
        split
        · exact ans_ab hw n2 hs (by omega) (by omega)
        · exact ans_ab hw n2 hs (by omega) (by omega)
    | succ N ih =>
      intro v ν hv v0 hf hz hi
      have e38 : ν 38 (s * 10 + v) = ansF α w s v := by
        rw [hf 38 _ (by decide) (Or.inl (by decide))]
        exact n3 s v hs (by omega) (by omega)
      have take : (v < p ∨ q ≤ v) → K_X9_aimAt_34 G l (d + 1) PV' p q b (s * 10) v ν := by
        intro hh
        apply B_X9_aimAt_34
        have hz2 : 0 ≤ ν 33 10 ∧ ν 33 10 < 10 := by
          rw [hz]
          split <;> (try split) <;> omega
        have ez : ν 33 10 = if v < p then v - a else (p - a) + (v - q) := by
          rw [hz]
          split <;> (try split) <;> (try split) <;> omega
        refine ⟨by omega, hz2, ih (v + 1) _ (by omega) (by omega) ?_ ?_ ?_⟩
        · intro k i k1 k2
          rw [← hf k i k1 k2]
          unfold st2
          grind
        · have : (st2 (st2 ν 39 (ν 33 10) (ν 38 (s * 10 + v))) 33 10 (ν 33 10 + 1)) 33 10 = ν 33 10 + 1 := by simp [st2]
          rw [this, ez]
          split <;> split <;> (try split) <;> omega
        · intro m m0 m1
          have e0 : (st2 (st2 ν 39 (ν 33 10) (ν 38 (s * 10 + v))) 33 10 (ν 33 10 + 1)) 33 10 = ν 33 10 + 1 := by simp [st2]
          rw [e0] at m1
          have e1 : (st2 (st2 ν 39 (ν 33 10) (ν 38 (s * 10 + v))) 33 10 (ν 33 10 + 1)) 39 m = if m = ν 33 10 then ν 38 (s * 10 + v) else ν 39 m := by simp [st2]
          rw [e1]
          by_cases c : m = ν 33 10
          · rw [if_pos c, e38, c, ez]
            unfold tgF
            simp only
            congr 1
            split <;> split <;> omega
          · rw [if_neg c]
            exact hi m m0 (by omega)
      apply B_X9_aimAt_14
      refine ⟨by omega, by omega, fun z => by omega, fun _ => ⟨by omega, fun y => take (Or.inl y), fun y => ⟨by omega, fun y2 => ih (v + 1) ν (by omega) (by omega) hf ?_ hi, fun y2 => take (Or.inr y2)⟩⟩⟩
      rw [hz]
      split <;> split <;> (try split) <;> omega
  refine main (b - a).toNat a _ (by omega) (Int.le_refl _) ?_ ?_ ?_
  · intro k i k1 k2
    unfold st2
    grind
  · have : (st2 μ 33 10 0) 33 10 = 0 := by simp [st2]
    rw [this, if_pos (by omega)]
    omega
  · intro m m0 m1
    have : (st2 μ 33 10 0) 33 10 = 0 := by simp [st2]
    omega
theorem s_takeAnswer (hw : wfW α) (hW : rlW α μ) (hv : 0 ≤ w ∧ w < α 74 20) (h : ∀ μ', (∀ k i, k ≠ 38 → (k ≠ 33 ∨ i ≠ 8) → μ' k i = μ k i) → cl_Ans α w μ' → PV' μ') : CV G l (d + 2) mX9_takeAnswer [xr G 33, xi w] μ PV' := by
  have hl := hw.2 w hv.1 hv.2
  obtain ⟨e1, e2⟩ := hW.2 w hv.1 hv.2
  have hn := hw.1
  apply E_X9_takeAnswer
  refine ⟨by omega, ?_⟩
  rw [e1]
  have main : ∀ (N : Nat) (v : Int) (ν : xMem), v + N = α 77 w → 0 ≤ v → ν 33 8 = α 77 w → (∀ k i, k ≠ 38 → (k ≠ 33 ∨ i ≠ 8) → ν k i = μ k i) → (∀ k, 0 ≤ k → k < v → ν 38 k = α 76 (10 * w + k) ∧ ν 38 (10 + (α 77 w - 1 - k)) = α 76 (10 * w + k)) → K_X9_takeAnswer_15 G l (d + 2) PV' w v ν := by
    intro N
    induction N with
    | zero =>
      intro v ν hv' v0 hz hf hi
      apply B_X9_takeAnswer_15
      rw [hz]
      refine ⟨by omega, by omega, fun _ => h ν hf ⟨hz, hv, ?_⟩, fun z => by omega⟩
      rintro s k (rfl | rfl) k0 k1
      · rw [show (0 : Int) * 10 + k = k by omega, (hi k k0 (by omega)).1]
        simp [ansF]
      · have := (hi (α 77 w - 1 - k) (by omega) (by omega)).2
        rw [show 10 + (α 77 w - 1 - (α 77 w - 1 - k)) = (1 : Int) * 10 + k by omega] at this
        rw [this]
        simp [ansF]
    | succ N ih =>
      intro v ν hv' v0 hz hf hi
      apply B_X9_takeAnswer_15
      rw [hz]
      refine ⟨by omega, by omega, fun z => by omega, fun _ => ?_⟩
      have e13 : ν 13 (w * 10 + v) = α 76 (10 * w + v) := by
        rw [hf 13 _ (by decide) (Or.inl (by decide)), show w * 10 + v = 10 * w + v by omega]
        exact e2 v v0 (by omega)
      have hb := hl.2 v v0 (by omega)
      apply E_X3_letterAt
      rw [e13, hz]
      refine ⟨by omega, by omega, by omega, by omega, ?_⟩
      have i2 : 10 + α 77 w - 1 - v = 10 + (α 77 w - 1 - v) := by omega
      rw [i2]
      refine ih (v + 1) _ (by omega) (by omega) (by simp only [st2]; grind) (fun k i k1 k2 => ?_) (fun k k0 k1 => ?_)
      · rw [← hf k i k1 k2]
        unfold st2
        grind
      · have hk := hi k k0
        unfold st2
        grind
  exact main (α 77 w).toNat 0 _ (by omega) (by omega) (by simp [st2]) (fun k i k1 k2 => by unfold st2; grind) (fun k k0 k1 => by omega)
end SpecSheet4
