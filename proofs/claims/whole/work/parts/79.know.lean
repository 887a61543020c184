/-! the model: know -/
section SpecKnow
variable {G : xG} {l : Launch} {d : Nat} {μ ν α : xMem} {P : Int → xMem → Prop} {PV' : xMem → Prop} {t : Int}
/-- the signs are well -/
def wfS (α : xMem) : Prop := (0 ≤ α 74 22 ∧ α 74 22 ≤ 120) ∧ ∀ k, 0 ≤ k → k < α 74 22 → (0 ≤ α 82 k ∧ α 82 k < α 74 20) ∧ (0 ≤ α 83 k ∧ α 83 k < 10) ∧ iR (α 84 k) ∧ ∀ j, 0 ≤ j → j < k → α 82 j = α 82 k → α 83 j ≠ α 83 k
def FmK (μ ν : xMem) : Prop := ∀ k i, k ≠ 90 → k ≠ 91 → (k ≠ 74 ∨ (i ≠ 26 ∧ i ≠ 27 ∧ i ≠ 56)) → ν k i = μ k i
theorem or_bit {m pl : Nat} (hm : m < 1024) (hp : pl < 10) : ∃ m2 : Nat, m2 < 1024 ∧ jor (m : Int) (jshl 1 (pl : Int)) = (m2 : Int) ∧ ∀ q, m2.testBit q = (m.testBit q || decide (pl = q)) := by
  have h1 := b_shl1 ⟨pl, by omega⟩
  simp only at h1
  have h2 : 2 ^ pl < 2 ^ 10 := Nat.pow_lt_pow_right (by decide) hp
  refine ⟨m ||| 2 ^ pl, Nat.or_lt_two_pow (n := 10) (by omega) h2, ?_, fun q => ?_⟩
  · rw [h1, b_or (by omega) (by omega)]
  · rw [Nat.testBit_or, Nat.testBit_two_pow]
theorem s_know (ht : iR t) (hA : MA α μ) (hw : wfW α) (hM : wfM α) (hS : wfS α) (hd : ∀ k, 0 ≤ k → k < α 74 21 → iR (α 81 k)) (hb : iR (μ 74 26) ∧ iR (μ 74 27) ∧ iR (μ 74 5)) (hc : μ 74 27 = μ 74 5 → Kn α (μ 74 26) μ)
    (h : ∀ ν, FmK μ ν → Kn α t ν → ν 74 26 = t → ν 74 27 = ν 74 5 → (ν 74 56 = 0 ∨ (μ 74 26 = t ∧ μ 74 27 = μ 74 5 ∧ ν 74 56 = μ 74 56)) → PV' ν) : CV G l (d + 1) mX12_know [xr G 74, xi t] μ PV' := by
  have hn := hw.1
  have hk := hM.1
  have hs := hS.1
  have k154 : ∀ (N : Nat) (v : Int) (ν : xMem), v + N = α 74 21 → 0 ≤ v → FmK μ ν → (∀ x, 0 ≤ x → x < α 74 20 → ∃ m : Nat, m < 1024 ∧ ν 90 x = (m : Int) ∧ ∀ pl : Nat, pl < 10 → (m.testBit pl = true ↔ isSg α t x pl)) → (∀ a b, 0 ≤ a → a < α 74 20 → 0 ≤ b → b < α 74 20 → ν 91 (120 * a + b) = ind (∃ k, 0 ≤ k ∧ k < v ∧ α 81 k ≤ t ∧ α 79 k = a ∧ α 80 k = b)) → ν 74 26 = t → ν 74 27 = μ 74 5 → ν 74 56 = 0 → K_X12_know_154 G l (d + 1) PV' t v ν := by
    intro N
    induction N with
    | zero =>
      intro v ν hv v0 hf h90 h91 e26 e27 e56
      apply B_X12_know_154
      rw [hf 74 21 (by decide) (by decide) (by decide), hA.2 21 (by decide) (by decide)]
      refine ⟨by omega, by omega, fun _ => h ν hf ⟨h90, fun a b a0 a1 b0 b1 => ?_⟩ e26 (by rw [e27, hf 74 5 (by decide) (by decide) (by decide)]) (Or.inl e56), fun z => by omega⟩
      rw [h91 a b a0 a1 b0 b1, show v = α 74 21 by omega]
      rfl
    | succ N ih =>
      intro v ν hv v0 hf h90 h91 e26 e27 e56
      obtain ⟨x1, x2, -⟩ := hM.2 v v0 (by omega)
      have hdv := hd v v0 (by omega)
      apply B_X12_know_154
      rw [hf 74 21 (by decide) (by decide) (by decide), hA.2 21 (by decide) (by decide), hf 81 v (by decide) (by decide) (Or.inl (by decide)), hA.1 81 v (by decide) (by decide), hf 79 v (by decide) (by decide) (Or.inl (by decide)), hA.1 79 v (by decide) (by decide), hf 80 v (by decide) (by decide) (Or.inl (by decide)), hA.1 80 v (by decide) (by decide)]
      refine ⟨by omega, by omega, fun z => by omega, fun _ => ⟨by omega, hdv, ht, fun z => ih (v + 1) ν (by omega) (by omega) hf h90 (fun a b a0 a1 b0 b1 => ?_) e26 e27 e56, fun z => ⟨by omega, ih (v + 1) _ (by omega) (by omega) (fun k i a b c => by rw [← hf k i a b c]; unfold st2; grind) (fun x a b => by have := h90 x a b; simpa [st2] using this) (fun a b a0 a1 b0 b1 => ?_) (by simp [st2]; exact e26) (by simp [st2]; exact e27) (by simp [st2]; exact e56)⟩⟩⟩
      · rw [h91 a b a0 a1 b0 b1]
        refine ind_congr ⟨fun ⟨k, k0, k1, k2⟩ => ⟨k, k0, by omega, k2⟩, fun ⟨k, k0, k1, k2⟩ => ⟨k, k0, ?_, k2⟩⟩
        rcases (show k < v ∨ k = v by omega) with q | q
        · exact q
        · subst q; omega
      · have e : (st2 ν 91 (120 * α 79 v + α 80 v) 1) 91 (120 * a + b) = if 120 * a + b = 120 * α 79 v + α 80 v then 1 else ν 91 (120 * a + b) := by simp [st2]
        rw [e]
        by_cases c : 120 * a + b = 120 * α 79 v + α 80 v
        · rw [if_pos c, ind_t ⟨v, v0, by omega, z, by omega, by omega⟩]
        · rw [if_neg c, h91 a b a0 a1 b0 b1]
          refine ind_congr ⟨fun ⟨k, k0, k1, k2⟩ => ⟨k, k0, by omega, k2⟩, fun ⟨k, k0, k1, k2, k3, k4⟩ => ⟨k, k0, ?_, k2, k3, k4⟩⟩
          rcases (show k < v ∨ k = v by omega) with q | q
          · exact q
          · subst q; omega
  have k83 : ∀ (N : Nat) (v : Int) (ν : xMem), v + N = α 74 22 → 0 ≤ v → FmK μ ν → (∀ x, 0 ≤ x → x < α 74 20 → ∃ m : Nat, m < 1024 ∧ ν 90 x = (m : Int) ∧ ∀ pl : Nat, pl < 10 → (m.testBit pl = true ↔ ∃ k, 0 ≤ k ∧ k < v ∧ α 84 k ≤ t ∧ α 82 k = x ∧ α 83 k = pl)) → (∀ x, 0 ≤ x → x < 14400 → ν 91 x = 0) → ν 74 26 = t → ν 74 27 = μ 74 5 → ν 74 56 = 0 → K_X12_know_83 G l (d + 1) PV' t v ν := by
    intro N
    induction N with
    | zero =>
      intro v ν hv v0 hf h90 h91 e26 e27 e56
      apply B_X12_know_83
      rw [hf 74 22 (by decide) (by decide) (by decide), hA.2 22 (by decide) (by decide)]
      refine ⟨by omega, by omega, fun _ => k154 (α 74 21).toNat 0 ν (by omega) (by omega) hf (fun x x0 x1 => ?_) (fun a b a0 a1 b0 b1 => ?_) e26 e27 e56, fun z => by omega⟩
      · obtain ⟨m, m1, m2, m3⟩ := h90 x x0 x1
        refine ⟨m, m1, m2, fun pl hp => (m3 pl hp).trans ?_⟩
        rw [show v = α 74 22 by omega]
        exact Iff.rfl
      · rw [h91 _ (by omega) (by omega), ind_f (fun ⟨k, k0, k1, _⟩ => by omega)]
    | succ N ih =>
      intro v ν hv v0 hf h90 h91 e26 e27 e56
      obtain ⟨x1, x2, x3, -⟩ := hS.2 v v0 (by omega)
      obtain ⟨m, m1, m2, m3⟩ := h90 (α 82 v) x1.1 x1.2
      apply B_X12_know_83
      rw [hf 74 22 (by decide) (by decide) (by decide), hA.2 22 (by decide) (by decide), hf 84 v (by decide) (by decide) (Or.inl (by decide)), hA.1 84 v (by decide) (by decide), hf 82 v (by decide) (by decide) (Or.inl (by decide)), hA.1 82 v (by decide) (by decide), hf 83 v (by decide) (by decide) (Or.inl (by decide)), hA.1 83 v (by decide) (by decide), m2]
      obtain ⟨pl, hpl⟩ : ∃ pl : Nat, α 83 v = (pl : Int) := ⟨(α 83 v).toNat, by omega⟩
      obtain ⟨m', n1, n2, n3⟩ := or_bit (pl := pl) m1 (by omega)
      refine ⟨by omega, by omega, fun z => by omega, fun _ => ⟨by omega, x3, ht, fun z => ⟨by omega, ih (v + 1) _ (by omega) (by omega) (fun k i a b c => by rw [← hf k i a b c]; unfold st2; grind) (fun x a b => ?_) (fun x a b => by rw [← h91 x a b]; simp [st2]) (by simp [st2]; exact e26) (by simp [st2]; exact e27) (by simp [st2]; exact e56)⟩, fun z => ⟨by omega, ih (v + 1) _ (by omega) (by omega) (fun k i a b c => by rw [← hf k i a b c]; unfold st2; grind) (fun x a b => ?_) (fun x a b => by rw [← h91 x a b]; simp [st2]) (by simp [st2]; exact e26) (by simp [st2]; exact e27) (by simp [st2]; exact e56)⟩⟩⟩
      · obtain ⟨p, p1, p2, p3⟩ := h90 x a b
        refine ⟨p, p1, ?_, fun q hq => (p3 q hq).trans ⟨fun ⟨k, k0, k1, k2⟩ => ⟨k, k0, by omega, k2⟩, fun ⟨k, k0, k1, k2⟩ => ⟨k, k0, ?_, k2⟩⟩⟩
        · have e : (st2 ν 90 (α 82 v) (m : Int)) 90 x = if x = α 82 v then (m : Int) else ν 90 x := by simp [st2]
          rw [e]
          by_cases c : x = α 82 v
          · rw [if_pos c, ← m2, ← c]; exact p2
          · rw [if_neg c]; exact p2
        · rcases (show k < v ∨ k = v by omega) with q | q
          · exact q
          · subst q; omega
      · have e : (st2 ν 90 (α 82 v) (jor (m : Int) (jshl 1 (α 83 v)))) 90 x = if x = α 82 v then jor (m : Int) (jshl 1 (α 83 v)) else ν 90 x := by simp [st2]
        by_cases c : x = α 82 v
        · refine ⟨m', n1, by rw [e, if_pos c, hpl, n2], fun q hq => ?_⟩
          rw [n3 q, Bool.or_eq_true, decide_eq_true_eq, m3 q hq]
          constructor
          · rintro (⟨k, k0, k1, k2, k3, k4⟩ | q1)
            · exact ⟨k, k0, by omega, k2, by rw [k3, c], k4⟩
            · exact ⟨v, v0, by omega, z, c.symm, by rw [hpl, q1]⟩
          · rintro ⟨k, k0, k1, k2, k3, k4⟩
            rcases (show k < v ∨ k = v by omega) with y | y
            · exact Or.inl ⟨k, k0, y, k2, by rw [k3, c], k4⟩
            · subst y
              exact Or.inr (by omega)
        · obtain ⟨p, p1, p2, p3⟩ := h90 x a b
          refine ⟨p, p1, by rw [e, if_neg c]; exact p2, fun q hq => (p3 q hq).trans ⟨fun ⟨k, k0, k1, k2⟩ => ⟨k, k0, by omega, k2⟩, fun ⟨k, k0, k1, k2, k3, k4⟩ => ⟨k, k0, ?_, k2, k3, k4⟩⟩⟩
          rcases (show k < v ∨ k = v by omega) with y | y
          · exact y
          · subst y; exact absurd k3.symm c
  have k61 : ∀ (N : Nat) (v : Int) (ν : xMem), v + N = 14400 → 0 ≤ v → FmK μ ν → (∀ x, 0 ≤ x → x < 120 → ν 90 x = 0) → (∀ x, 0 ≤ x → x < v → ν 91 x = 0) → ν 74 26 = t → ν 74 27 = μ 74 5 → ν 74 56 = 0 → K_X12_know_61 G l (d + 1) PV' t v ν := by
    intro N
    induction N with
    | zero =>
      intro v ν hv v0 hf h90 h91 e26 e27 e56
      apply B_X12_know_61
      refine ⟨by omega, fun _ => k83 (α 74 22).toNat 0 ν (by omega) (by omega) hf (fun x a b => ⟨0, by decide, h90 x a (by omega), fun pl hp => ⟨fun q => by simp at q, fun ⟨k, k0, k1, _⟩ => by omega⟩⟩) (fun x a b => h91 x a (by omega)) e26 e27 e56, fun z => by omega⟩
    | succ N ih =>
      intro v ν hv v0 hf h90 h91 e26 e27 e56
      apply B_X12_know_61
      refine ⟨by omega, fun z => by omega, fun _ => ⟨by omega, ih (v + 1) _ (by omega) (by omega) (fun k i a b c => by rw [← hf k i a b c]; unfold st2; grind) (fun x a b => by rw [← h90 x a b]; simp [st2]) (fun x a b => ?_) (by simp [st2]; exact e26) (by simp [st2]; exact e27) (by simp [st2]; exact e56)⟩⟩
      have e : (st2 ν 91 v 0) 91 x = if x = v then 0 else ν 91 x := by simp [st2]
      rw [e]
      by_cases c : x = v
      · rw [if_pos c]
      · rw [if_neg c]; exact h91 x a (by omega)
  have k40 : ∀ (N : Nat) (v : Int) (ν : xMem), v + N = 120 → 0 ≤ v → FmK μ ν → (∀ x, 0 ≤ x → x < v → ν 90 x = 0) → ν 74 26 = t → ν 74 27 = μ 74 5 → ν 74 56 = 0 → K_X12_know_40 G l (d + 1) PV' t v ν := by
    intro N
    induction N with
    | zero =>
      intro v ν hv v0 hf h90 e26 e27 e56
      apply B_X12_know_40
      exact ⟨by omega, fun _ => k61 14400 0 ν (by omega) (by omega) hf (fun x a b => h90 x a (by omega)) (fun x a b => by omega) e26 e27 e56, fun z => by omega⟩
    | succ N ih =>
      intro v ν hv v0 hf h90 e26 e27 e56
      apply B_X12_know_40
      refine ⟨by omega, fun z => by omega, fun _ => ⟨by omega, ih (v + 1) _ (by omega) (by omega) (fun k i a b c => by rw [← hf k i a b c]; unfold st2; grind) (fun x a b => ?_) (by simp [st2]; exact e26) (by simp [st2]; exact e27) (by simp [st2]; exact e56)⟩⟩
      have e : (st2 ν 90 v 0) 90 x = if x = v then 0 else ν 90 x := by simp [st2]
      rw [e]
      by_cases c : x = v
      · rw [if_pos c]
      · rw [if_neg c]; exact h90 x a (by omega)
  have go : K_X12_know_20 G l (d + 1) PV' t μ := by
    apply B_X12_know_20
    exact k40 120 0 _ (by omega) (by omega) (fun k i a b c => by unfold st2; grind) (fun x a b => by omega) (by simp [st2]) (by simp [st2]) (by simp [st2])
  apply E_X12_know
  refine ⟨hb.1, ht, fun _ => go, fun z => ⟨hb.2.1, hb.2.2, fun _ => go, fun z2 => h μ (fun _ _ _ _ _ => rfl) ?_ z z2 (Or.inr ⟨z, z2, rfl⟩)⟩⟩
  have := hc z2
  rw [z] at this
  exact this
end SpecKnow
