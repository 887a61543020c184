/-! the model: a piece is made and kept -/
section SpecMPiece
variable {G : xG} {l : Launch} {d : Nat} {μ ν α : xMem} {P : Int → xMem → Prop} {PV' : xMem → Prop} {tl w t : Int}
/-- the table's place x and the scratch have changed -/
def FmX (k1 k2 k3 k4 : Nat) (x : Int) (μ ν : xMem) : Prop := ∀ k i, (k < 102 ∨ 107 ≤ k) → (k ≠ 74 ∨ i < 43 ∨ 49 < i) → (k ≠ k1 ∨ i ≠ x) → (k ≠ k2 ∨ i ≠ x) → (k ≠ k3 ∨ i ≠ x) → (k ≠ k4 ∨ i < 40 * x ∨ 40 * x + 40 ≤ i) → ν k i = μ k i
theorem s_keepPiece {x : Int} {T : Tri} {M : Int} (hM : M ≤ 9) (hx : 0 ≤ x ∧ x < 3960) (hT : vW M T) (hC : Cu μ T) (h : ∀ ν, FmX 92 93 94 98 x μ ν → HdX 92 93 94 98 ν x T → PV' ν) : K_X12_makePiece_275 G l (d + 1) PV' x 0 (st2 (st2 (st2 μ 92 x (μ 74 46)) 93 x (μ 74 47)) 94 x (μ 74 48)) := by
  obtain ⟨c1, c2, c3, c4⟩ := hC
  have hn : okN (nm T) ∧ (nm T).length ≤ 34 := by
    unfold nm
    split
    · exact ⟨okN_nil, by simp⟩
    · rename_i z; have := hT.2 z; exact ⟨this.1, by omega⟩
  have main : ∀ (N k : Nat) (ν : xMem), k + N = (nm T).length → FmX 92 93 94 98 x μ ν → ν 92 x = cap 1000 T.1 → ν 93 x = cs T → ν 94 x = (nm T).length → (∀ q : Nat, q < k → ν 98 (40 * x + q) = chr ((nm T).getD q 0)) → ν 74 48 = (nm T).length → (∀ q : Nat, q < (nm T).length → ν 105 q = chr ((nm T).getD q 0)) → K_X12_makePiece_275 G l (d + 1) PV' x (k : Int) ν := by
    intro N
    induction N with
    | zero =>
      intro k ν hk hf y1 y2 y3 y4 y5 y6
      apply B_X12_makePiece_275
      rw [y5]
      exact ⟨by omega, by omega, fun _ => h ν hf ⟨y1, y2, y3, fun q hq => y4 q (by omega)⟩, fun z => by omega⟩
    | succ N ih =>
      intro k ν hk hf y1 y2 y3 y4 y5 y6
      have hb := chr_b (okN_get hn.1 k)
      apply B_X12_makePiece_275
      rw [y5, y6 k (by omega), j8_id (by omega)]
      refine ⟨by omega, by omega, fun z => by omega, fun _ => ⟨by omega, by omega, ?_⟩⟩
      have := ih (k + 1) (st2 ν 98 (40 * x + k) (chr ((nm T).getD k 0))) (by omega) (fun k' i a b c1 c2 c3 c4 => by rw [← hf k' i a b c1 c2 c3 c4]; unfold st2; grind) (by rw [← y1]; simp [st2]) (by rw [← y2]; simp [st2]) (by rw [← y3]; simp [st2]) (fun q hq => ?_) (by rw [← y5]; simp [st2]) (fun q hq => by rw [← y6 q hq]; simp [st2])
      · rw [show ((k + 1 : Nat) : Int) = (k : Int) + 1 by omega] at this
        exact this
      · have e : (st2 ν 98 (40 * x + (k : Int)) (chr ((nm T).getD k 0))) 98 (40 * x + (q : Int)) = if 40 * x + (q : Int) = 40 * x + (k : Int) then chr ((nm T).getD k 0) else ν 98 (40 * x + q) := by simp [st2]
        rw [e]
        by_cases c : q = k
        · rw [if_pos (by omega), c]
        · rw [if_neg (by omega)]; exact y4 q (by omega)
  refine main (nm T).length 0 _ (by omega) (fun k i a b c1 c2 c3 c4 => by unfold st2; grind) (by rw [← c1]; simp [st2]) (by rw [← c2]; simp [st2]) (by rw [← c3]; simp [st2]) (fun q hq => by omega) (by rw [← c3]; simp [st2]) (fun q hq => by rw [← c4 q hq]; simp [st2])
theorem s_keepRow {x : Int} {T : Tri} {M : Int} (hM : M ≤ 9) (hx : 0 ≤ x ∧ x < 3960) (hT : vW M T) (hC : Cu μ T) (h : ∀ ν, FmX 95 96 97 99 x μ ν → HdX 95 96 97 99 ν x T → PV' ν) : K_X12_makeRow_272 G l (d + 1) PV' x 0 (st2 (st2 (st2 μ 95 x (μ 74 46)) 96 x (μ 74 47)) 97 x (μ 74 48)) := by
  obtain ⟨c1, c2, c3, c4⟩ := hC
  have hn : okN (nm T) ∧ (nm T).length ≤ 34 := by
    unfold nm
    split
    · exact ⟨okN_nil, by simp⟩
    · rename_i z; have := hT.2 z; exact ⟨this.1, by omega⟩
  have main : ∀ (N k : Nat) (ν : xMem), k + N = (nm T).length → FmX 95 96 97 99 x μ ν → ν 95 x = cap 1000 T.1 → ν 96 x = cs T → ν 97 x = (nm T).length → (∀ q : Nat, q < k → ν 99 (40 * x + q) = chr ((nm T).getD q 0)) → ν 74 48 = (nm T).length → (∀ q : Nat, q < (nm T).length → ν 105 q = chr ((nm T).getD q 0)) → K_X12_makeRow_272 G l (d + 1) PV' x (k : Int) ν := by
    intro N
    induction N with
    | zero =>
      intro k ν hk hf y1 y2 y3 y4 y5 y6
      apply B_X12_makeRow_272
      rw [y5]
      exact ⟨by omega, by omega, fun _ => h ν hf ⟨y1, y2, y3, fun q hq => y4 q (by omega)⟩, fun z => by omega⟩
    | succ N ih =>
      intro k ν hk hf y1 y2 y3 y4 y5 y6
      have hb := chr_b (okN_get hn.1 k)
      apply B_X12_makeRow_272
      rw [y5, y6 k (by omega), j8_id (by omega)]
      refine ⟨by omega, by omega, fun z => by omega, fun _ => ⟨by omega, by omega, ?_⟩⟩
      have := ih (k + 1) (st2 ν 99 (40 * x + k) (chr ((nm T).getD k 0))) (by omega) (fun k' i a b c1 c2 c3 c4 => by rw [← hf k' i a b c1 c2 c3 c4]; unfold st2; grind) (by rw [← y1]; simp [st2]) (by rw [← y2]; simp [st2]) (by rw [← y3]; simp [st2]) (fun q hq => ?_) (by rw [← y5]; simp [st2]) (fun q hq => by rw [← y6 q hq]; simp [st2])
      · rw [show ((k + 1 : Nat) : Int) = (k : Int) + 1 by omega] at this
        exact this
      · have e : (st2 ν 99 (40 * x + (k : Int)) (chr ((nm T).getD k 0))) 99 (40 * x + (q : Int)) = if 40 * x + (q : Int) = 40 * x + (k : Int) then chr ((nm T).getD k 0) else ν 99 (40 * x + q) := by simp [st2]
        rw [e]
        by_cases c : q = k
        · rw [if_pos (by omega), c]
        · rw [if_neg (by omega)]; exact y4 q (by omega)
  refine main (nm T).length 0 _ (by omega) (fun k i a b c1 c2 c3 c4 => by unfold st2; grind) (by rw [← c1]; simp [st2]) (by rw [← c2]; simp [st2]) (by rw [← c3]; simp [st2]) (fun q hq => by omega) (by rw [← c3]; simp [st2]) (fun q hq => by rw [← c4 q hq]; simp [st2])
end SpecMPiece
