/-! the model: what is put in -/
section SpecMPut
variable {G : xG} {l : Launch} {d : Nat} {μ ν α : xMem} {P : Int → xMem → Prop} {PV' : xMem → Prop} {tl w t : Int}
/-- n letters put in, k more places to try -/
def oMX (O : xO) (R : xV) (s a b y S w f t n : Int) : Nat → List Tri
  | 0 => []
  | k + 1 => oArd O R s a b y S w f t (b - n - (k + 1 : Nat)) (b - (k + 1 : Nat)) ++ oMX O R s a b y S w f t n k
def oMN (O : xO) (R : xV) (s a b y S w f t : Int) : Nat → List Tri
  | 0 => []
  | j + 1 => oMX O R s a b y S w f t (b - a - 1 - (j + 1 : Nat)) (j + 1) ++ oMN O R s a b y S w f t j
/-- what is around: the run without x to x + n -/
theorem s_around {F : Int → Int} {c S rd f e p q s n x r len : Int} (hF : md_Run μ F len) (hx : 1 ≤ x ∧ 1 ≤ n ∧ x + n < len) (h : ∀ ν, Aro ν (fun m => F (if m < x then m else m + n)) (len - n) → (∀ k i, k ≠ 103 → (k ≠ 74 ∨ i ≠ 44) → ν k i = μ k i) → K_X12_putIn_155 G l (d + 1) PV' c S rd f e p q s n x r 0 ν) : K_X12_putIn_91 G l (d + 1) PV' c S rd f e p q s n x r 0 (st2 μ 74 44 0) := by
  obtain ⟨r1, r2, r3⟩ := hF
  have main : ∀ (N : Nat) (v : Int) (ν : xMem), v + N = len → 0 ≤ v → (∀ k i, k ≠ 103 → (k ≠ 74 ∨ i ≠ 44) → ν k i = μ k i) → ν 74 44 = (if v ≤ x then v else if v ≤ x + n then x else v - n) → (∀ m, 0 ≤ m → m < ν 74 44 → ν 103 m = F (if m < x then m else m + n)) → K_X12_putIn_91 G l (d + 1) PV' c S rd f e p q s n x r v ν := by
    intro N
    induction N with
    | zero =>
      intro v ν hv v0 hf hz hi
      have ez : ν 74 44 = len - n := by rw [hz]; split <;> (try split) <;> omega
      apply B_X12_putIn_91
      rw [hf 74 43 (by decide) (by decide), r1]
      refine ⟨by omega, by omega, fun _ => h ν ⟨ez, by omega, fun m m0 m1 => ⟨hi m m0 (by omega), ?_⟩⟩ hf, fun z => by omega⟩
      simp only
      split
      · exact (r3 m m0 (by omega)).2
      · exact (r3 (m + n) (by omega) (by omega)).2
    | succ N ih =>
      intro v ν hv v0 hf hz hi
      have e102 : ν 102 v = F v := by rw [hf 102 v (by decide) (Or.inl (by decide))]; exact (r3 v v0 (by omega)).1
      have take : (v < x ∨ x + n ≤ v) → K_X12_putIn_120 G l (d + 1) PV' c S rd f e p q s n x r v ν := by
        intro hh
        have ez : ν 74 44 = if v < x then v else v - n := by
          rw [hz]
          split <;> (try split) <;> (try split) <;> omega
        have bz : 0 ≤ ν 74 44 ∧ ν 74 44 < 10 := by rw [ez]; split <;> omega
        apply B_X12_putIn_120
        refine ⟨by omega, bz, ih (v + 1) _ (by omega) (by omega) ?_ ?_ ?_⟩
        · intro k i k1 k2
          rw [← hf k i k1 k2]
          unfold st2
          grind
        · have : (st2 (st2 ν 103 (ν 74 44) (ν 102 v)) 74 44 (ν 74 44 + 1)) 74 44 = ν 74 44 + 1 := by simp [st2]
          rw [this, ez]
          split <;> split <;> (try split) <;> omega
        · intro m m0 m1
          have e0 : (st2 (st2 ν 103 (ν 74 44) (ν 102 v)) 74 44 (ν 74 44 + 1)) 74 44 = ν 74 44 + 1 := by simp [st2]
          rw [e0] at m1
          have e1 : (st2 (st2 ν 103 (ν 74 44) (ν 102 v)) 74 44 (ν 74 44 + 1)) 103 m = if m = ν 74 44 then ν 102 v else ν 103 m := by simp [st2]
          rw [e1]
          by_cases cc : m = ν 74 44
          · rw [if_pos cc, e102, cc, ez]
            congr 1
            by_cases c5 : v < x
            · rw [if_pos c5, if_pos c5]
            · rw [if_neg c5, if_neg (by omega)]; omega
          · rw [if_neg cc]
            exact hi m m0 (by omega)
      apply B_X12_putIn_91
      rw [hf 74 43 (by decide) (by decide), r1]
      refine ⟨by omega, by omega, fun z => by omega, fun _ => ⟨by omega, fun y => take (Or.inl y), fun y => ⟨by omega, fun y2 => take (Or.inr y2), fun y2 => ih (v + 1) ν (by omega) (by omega) hf ?_ hi⟩⟩⟩
      rw [hz]
      split <;> split <;> (try split) <;> (try split) <;> omega
  refine main len.toNat 0 _ (by omega) (by omega) (fun k i k1 k2 => by unfold st2; grind) ?_ ?_
  · simp [st2]
    omega
  · intro m m0 m1
    simp [st2] at m1
    omega
end SpecMPut
