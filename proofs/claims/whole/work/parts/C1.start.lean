/-! what holds at the start -/
section Start
variable {μ : xMem}
theorem cntW_none {p : Int → Prop} (h : ∀ c, ¬ p c) : ∀ n : Nat, cntW p n = 0
  | 0 => rfl
  | n + 1 => by rw [cntW, cntW_none h n, ind_f (h _)]; rfl
theorem lenS_z (h : ∀ i, μ 49 i = 0) : ∀ n : Nat, lenS μ n = 0
  | 0 => rfl
  | n + 1 => by rw [lenS, lenS_z h n, h]; rfl
def blankM (μ : xMem) : Prop := (∀ (k : Nat) (i : Int), k ≠ 15 → k ≠ 18 → k ≠ 43 → k ≠ 50 → k ≠ 51 → k ≠ 53 → k ≠ 63 → k ≠ 74 → μ k i = 0) ∧ (∀ i, i ≠ 26 → i ≠ 27 → μ 74 i = 0) ∧ (∀ i, 0 ≤ i → i < 1320 → μ 15 i = -1) ∧ (∀ i, 0 ≤ i → i < 1200 → μ 18 i = -1) ∧ (∀ i, 0 ≤ i → i < 16 → μ 43 i = -1) ∧ (∀ i, 0 ≤ i → i < 81 → μ 50 i = -1) ∧ (∀ i, 0 ≤ i → i < 81 → μ 51 i = -1) ∧ (∀ i, 0 ≤ i → i < 256 → μ 53 i = -1) ∧ (∀ i, 0 ≤ i → i < 16 → μ 63 i = -1) ∧ μ 74 26 = -2 ∧ μ 74 27 = -1
theorem INV_0 (h : blankM μ) : INV 0 μ := by
  obtain ⟨hz, hy, h15, h18, h43, h50, h51, h53, h63, h26, h27⟩ := h
  have z0 : ∀ i, μ 0 i = 0 := fun i => hz 0 i (by decide) (by decide) (by decide) (by decide) (by decide) (by decide) (by decide) (by decide)
  have z1 : ∀ i, μ 1 i = 0 := fun i => hz 1 i (by decide) (by decide) (by decide) (by decide) (by decide) (by decide) (by decide) (by decide)
  have z2 : ∀ i, μ 2 i = 0 := fun i => hz 2 i (by decide) (by decide) (by decide) (by decide) (by decide) (by decide) (by decide) (by decide)
  have z3 : ∀ i, μ 3 i = 0 := fun i => hz 3 i (by decide) (by decide) (by decide) (by decide) (by decide) (by decide) (by decide) (by decide)
  have z4 : ∀ i, μ 4 i = 0 := fun i => hz 4 i (by decide) (by decide) (by decide) (by decide) (by decide) (by decide) (by decide) (by decide)
  have z5 : ∀ i, μ 5 i = 0 := fun i => hz 5 i (by decide) (by decide) (by decide) (by decide) (by decide) (by decide) (by decide) (by decide)
  have z6 : ∀ i, μ 6 i = 0 := fun i => hz 6 i (by decide) (by decide) (by decide) (by decide) (by decide) (by decide) (by decide) (by decide)
  have z7 : ∀ i, μ 7 i = 0 := fun i => hz 7 i (by decide) (by decide) (by decide) (by decide) (by decide) (by decide) (by decide) (by decide)
  have z8 : ∀ i, μ 8 i = 0 := fun i => hz 8 i (by decide) (by decide) (by decide) (by decide) (by decide) (by decide) (by decide) (by decide)
  have z9 : ∀ i, μ 9 i = 0 := fun i => hz 9 i (by decide) (by decide) (by decide) (by decide) (by decide) (by decide) (by decide) (by decide)
  have z10 : ∀ i, μ 10 i = 0 := fun i => hz 10 i (by decide) (by decide) (by decide) (by decide) (by decide) (by decide) (by decide) (by decide)
  have z11 : ∀ i, μ 11 i = 0 := fun i => hz 11 i (by decide) (by decide) (by decide) (by decide) (by decide) (by decide) (by decide) (by decide)
  have z12 : ∀ i, μ 12 i = 0 := fun i => hz 12 i (by decide) (by decide) (by decide) (by decide) (by decide) (by decide) (by decide) (by decide)
  have z13 : ∀ i, μ 13 i = 0 := fun i => hz 13 i (by decide) (by decide) (by decide) (by decide) (by decide) (by decide) (by decide) (by decide)
  have z14 : ∀ i, μ 14 i = 0 := fun i => hz 14 i (by decide) (by decide) (by decide) (by decide) (by decide) (by decide) (by decide) (by decide)
  have z16 : ∀ i, μ 16 i = 0 := fun i => hz 16 i (by decide) (by decide) (by decide) (by decide) (by decide) (by decide) (by decide) (by decide)
  have z17 : ∀ i, μ 17 i = 0 := fun i => hz 17 i (by decide) (by decide) (by decide) (by decide) (by decide) (by decide) (by decide) (by decide)
  have z19 : ∀ i, μ 19 i = 0 := fun i => hz 19 i (by decide) (by decide) (by decide) (by decide) (by decide) (by decide) (by decide) (by decide)
  have z20 : ∀ i, μ 20 i = 0 := fun i => hz 20 i (by decide) (by decide) (by decide) (by decide) (by decide) (by decide) (by decide) (by decide)
  have z21 : ∀ i, μ 21 i = 0 := fun i => hz 21 i (by decide) (by decide) (by decide) (by decide) (by decide) (by decide) (by decide) (by decide)
  have z22 : ∀ i, μ 22 i = 0 := fun i => hz 22 i (by decide) (by decide) (by decide) (by decide) (by decide) (by decide) (by decide) (by decide)
  have z23 : ∀ i, μ 23 i = 0 := fun i => hz 23 i (by decide) (by decide) (by decide) (by decide) (by decide) (by decide) (by decide) (by decide)
  have z24 : ∀ i, μ 24 i = 0 := fun i => hz 24 i (by decide) (by decide) (by decide) (by decide) (by decide) (by decide) (by decide) (by decide)
  have z25 : ∀ i, μ 25 i = 0 := fun i => hz 25 i (by decide) (by decide) (by decide) (by decide) (by decide) (by decide) (by decide) (by decide)
  have z26 : ∀ i, μ 26 i = 0 := fun i => hz 26 i (by decide) (by decide) (by decide) (by decide) (by decide) (by decide) (by decide) (by decide)
  have z27 : ∀ i, μ 27 i = 0 := fun i => hz 27 i (by decide) (by decide) (by decide) (by decide) (by decide) (by decide) (by decide) (by decide)
  have z28 : ∀ i, μ 28 i = 0 := fun i => hz 28 i (by decide) (by decide) (by decide) (by decide) (by decide) (by decide) (by decide) (by decide)
  have z29 : ∀ i, μ 29 i = 0 := fun i => hz 29 i (by decide) (by decide) (by decide) (by decide) (by decide) (by decide) (by decide) (by decide)
  have z30 : ∀ i, μ 30 i = 0 := fun i => hz 30 i (by decide) (by decide) (by decide) (by decide) (by decide) (by decide) (by decide) (by decide)
  have z31 : ∀ i, μ 31 i = 0 := fun i => hz 31 i (by decide) (by decide) (by decide) (by decide) (by decide) (by decide) (by decide) (by decide)
  have z32 : ∀ i, μ 32 i = 0 := fun i => hz 32 i (by decide) (by decide) (by decide) (by decide) (by decide) (by decide) (by decide) (by decide)
  have z33 : ∀ i, μ 33 i = 0 := fun i => hz 33 i (by decide) (by decide) (by decide) (by decide) (by decide) (by decide) (by decide) (by decide)
  have z34 : ∀ i, μ 34 i = 0 := fun i => hz 34 i (by decide) (by decide) (by decide) (by decide) (by decide) (by decide) (by decide) (by decide)
  have z35 : ∀ i, μ 35 i = 0 := fun i => hz 35 i (by decide) (by decide) (by decide) (by decide) (by decide) (by decide) (by decide) (by decide)
  have z36 : ∀ i, μ 36 i = 0 := fun i => hz 36 i (by decide) (by decide) (by decide) (by decide) (by decide) (by decide) (by decide) (by decide)
  have z37 : ∀ i, μ 37 i = 0 := fun i => hz 37 i (by decide) (by decide) (by decide) (by decide) (by decide) (by decide) (by decide) (by decide)
  have z38 : ∀ i, μ 38 i = 0 := fun i => hz 38 i (by decide) (by decide) (by decide) (by decide) (by decide) (by decide) (by decide) (by decide)
  have z39 : ∀ i, μ 39 i = 0 := fun i => hz 39 i (by decide) (by decide) (by decide) (by decide) (by decide) (by decide) (by decide) (by decide)
  have z40 : ∀ i, μ 40 i = 0 := fun i => hz 40 i (by decide) (by decide) (by decide) (by decide) (by decide) (by decide) (by decide) (by decide)
  have z41 : ∀ i, μ 41 i = 0 := fun i => hz 41 i (by decide) (by decide) (by decide) (by decide) (by decide) (by decide) (by decide) (by decide)
  have z42 : ∀ i, μ 42 i = 0 := fun i => hz 42 i (by decide) (by decide) (by decide) (by decide) (by decide) (by decide) (by decide) (by decide)
  have z44 : ∀ i, μ 44 i = 0 := fun i => hz 44 i (by decide) (by decide) (by decide) (by decide) (by decide) (by decide) (by decide) (by decide)
  have z45 : ∀ i, μ 45 i = 0 := fun i => hz 45 i (by decide) (by decide) (by decide) (by decide) (by decide) (by decide) (by decide) (by decide)
  have z46 : ∀ i, μ 46 i = 0 := fun i => hz 46 i (by decide) (by decide) (by decide) (by decide) (by decide) (by decide) (by decide) (by decide)
  have z47 : ∀ i, μ 47 i = 0 := fun i => hz 47 i (by decide) (by decide) (by decide) (by decide) (by decide) (by decide) (by decide) (by decide)
  have z48 : ∀ i, μ 48 i = 0 := fun i => hz 48 i (by decide) (by decide) (by decide) (by decide) (by decide) (by decide) (by decide) (by decide)
  have z49 : ∀ i, μ 49 i = 0 := fun i => hz 49 i (by decide) (by decide) (by decide) (by decide) (by decide) (by decide) (by decide) (by decide)
  have z52 : ∀ i, μ 52 i = 0 := fun i => hz 52 i (by decide) (by decide) (by decide) (by decide) (by decide) (by decide) (by decide) (by decide)
  have z54 : ∀ i, μ 54 i = 0 := fun i => hz 54 i (by decide) (by decide) (by decide) (by decide) (by decide) (by decide) (by decide) (by decide)
  have z55 : ∀ i, μ 55 i = 0 := fun i => hz 55 i (by decide) (by decide) (by decide) (by decide) (by decide) (by decide) (by decide) (by decide)
  have z56 : ∀ i, μ 56 i = 0 := fun i => hz 56 i (by decide) (by decide) (by decide) (by decide) (by decide) (by decide) (by decide) (by decide)
  have z57 : ∀ i, μ 57 i = 0 := fun i => hz 57 i (by decide) (by decide) (by decide) (by decide) (by decide) (by decide) (by decide) (by decide)
  have z58 : ∀ i, μ 58 i = 0 := fun i => hz 58 i (by decide) (by decide) (by decide) (by decide) (by decide) (by decide) (by decide) (by decide)
  have z59 : ∀ i, μ 59 i = 0 := fun i => hz 59 i (by decide) (by decide) (by decide) (by decide) (by decide) (by decide) (by decide) (by decide)
  have z60 : ∀ i, μ 60 i = 0 := fun i => hz 60 i (by decide) (by decide) (by decide) (by decide) (by decide) (by decide) (by decide) (by decide)
  have z61 : ∀ i, μ 61 i = 0 := fun i => hz 61 i (by decide) (by decide) (by decide) (by decide) (by decide) (by decide) (by decide) (by decide)
  have z62 : ∀ i, μ 62 i = 0 := fun i => hz 62 i (by decide) (by decide) (by decide) (by decide) (by decide) (by decide) (by decide) (by decide)
  have z64 : ∀ i, μ 64 i = 0 := fun i => hz 64 i (by decide) (by decide) (by decide) (by decide) (by decide) (by decide) (by decide) (by decide)
  have z65 : ∀ i, μ 65 i = 0 := fun i => hz 65 i (by decide) (by decide) (by decide) (by decide) (by decide) (by decide) (by decide) (by decide)
  have z66 : ∀ i, μ 66 i = 0 := fun i => hz 66 i (by decide) (by decide) (by decide) (by decide) (by decide) (by decide) (by decide) (by decide)
  have z67 : ∀ i, μ 67 i = 0 := fun i => hz 67 i (by decide) (by decide) (by decide) (by decide) (by decide) (by decide) (by decide) (by decide)
  have z68 : ∀ i, μ 68 i = 0 := fun i => hz 68 i (by decide) (by decide) (by decide) (by decide) (by decide) (by decide) (by decide) (by decide)
  have z69 : ∀ i, μ 69 i = 0 := fun i => hz 69 i (by decide) (by decide) (by decide) (by decide) (by decide) (by decide) (by decide) (by decide)
  have z70 : ∀ i, μ 70 i = 0 := fun i => hz 70 i (by decide) (by decide) (by decide) (by decide) (by decide) (by decide) (by decide) (by decide)
  have z71 : ∀ i, μ 71 i = 0 := fun i => hz 71 i (by decide) (by decide) (by decide) (by decide) (by decide) (by decide) (by decide) (by decide)
  have z72 : ∀ i, μ 72 i = 0 := fun i => hz 72 i (by decide) (by decide) (by decide) (by decide) (by decide) (by decide) (by decide) (by decide)
  have z73 : ∀ i, μ 73 i = 0 := fun i => hz 73 i (by decide) (by decide) (by decide) (by decide) (by decide) (by decide) (by decide) (by decide)
  have z75 : ∀ i, μ 75 i = 0 := fun i => hz 75 i (by decide) (by decide) (by decide) (by decide) (by decide) (by decide) (by decide) (by decide)
  have z76 : ∀ i, μ 76 i = 0 := fun i => hz 76 i (by decide) (by decide) (by decide) (by decide) (by decide) (by decide) (by decide) (by decide)
  have z77 : ∀ i, μ 77 i = 0 := fun i => hz 77 i (by decide) (by decide) (by decide) (by decide) (by decide) (by decide) (by decide) (by decide)
  have z78 : ∀ i, μ 78 i = 0 := fun i => hz 78 i (by decide) (by decide) (by decide) (by decide) (by decide) (by decide) (by decide) (by decide)
  have z79 : ∀ i, μ 79 i = 0 := fun i => hz 79 i (by decide) (by decide) (by decide) (by decide) (by decide) (by decide) (by decide) (by decide)
  have z80 : ∀ i, μ 80 i = 0 := fun i => hz 80 i (by decide) (by decide) (by decide) (by decide) (by decide) (by decide) (by decide) (by decide)
  have z81 : ∀ i, μ 81 i = 0 := fun i => hz 81 i (by decide) (by decide) (by decide) (by decide) (by decide) (by decide) (by decide) (by decide)
  have z82 : ∀ i, μ 82 i = 0 := fun i => hz 82 i (by decide) (by decide) (by decide) (by decide) (by decide) (by decide) (by decide) (by decide)
  have z83 : ∀ i, μ 83 i = 0 := fun i => hz 83 i (by decide) (by decide) (by decide) (by decide) (by decide) (by decide) (by decide) (by decide)
  have z84 : ∀ i, μ 84 i = 0 := fun i => hz 84 i (by decide) (by decide) (by decide) (by decide) (by decide) (by decide) (by decide) (by decide)
  have z85 : ∀ i, μ 85 i = 0 := fun i => hz 85 i (by decide) (by decide) (by decide) (by decide) (by decide) (by decide) (by decide) (by decide)
  have z86 : ∀ i, μ 86 i = 0 := fun i => hz 86 i (by decide) (by decide) (by decide) (by decide) (by decide) (by decide) (by decide) (by decide)
  have z87 : ∀ i, μ 87 i = 0 := fun i => hz 87 i (by decide) (by decide) (by decide) (by decide) (by decide) (by decide) (by decide) (by decide)
  have z88 : ∀ i, μ 88 i = 0 := fun i => hz 88 i (by decide) (by decide) (by decide) (by decide) (by decide) (by decide) (by decide) (by decide)
  have z89 : ∀ i, μ 89 i = 0 := fun i => hz 89 i (by decide) (by decide) (by decide) (by decide) (by decide) (by decide) (by decide) (by decide)
  have z90 : ∀ i, μ 90 i = 0 := fun i => hz 90 i (by decide) (by decide) (by decide) (by decide) (by decide) (by decide) (by decide) (by decide)
  have z91 : ∀ i, μ 91 i = 0 := fun i => hz 91 i (by decide) (by decide) (by decide) (by decide) (by decide) (by decide) (by decide) (by decide)
  have z92 : ∀ i, μ 92 i = 0 := fun i => hz 92 i (by decide) (by decide) (by decide) (by decide) (by decide) (by decide) (by decide) (by decide)
  have z93 : ∀ i, μ 93 i = 0 := fun i => hz 93 i (by decide) (by decide) (by decide) (by decide) (by decide) (by decide) (by decide) (by decide)
  have z94 : ∀ i, μ 94 i = 0 := fun i => hz 94 i (by decide) (by decide) (by decide) (by decide) (by decide) (by decide) (by decide) (by decide)
  have z95 : ∀ i, μ 95 i = 0 := fun i => hz 95 i (by decide) (by decide) (by decide) (by decide) (by decide) (by decide) (by decide) (by decide)
  have z96 : ∀ i, μ 96 i = 0 := fun i => hz 96 i (by decide) (by decide) (by decide) (by decide) (by decide) (by decide) (by decide) (by decide)
  have z97 : ∀ i, μ 97 i = 0 := fun i => hz 97 i (by decide) (by decide) (by decide) (by decide) (by decide) (by decide) (by decide) (by decide)
  have z98 : ∀ i, μ 98 i = 0 := fun i => hz 98 i (by decide) (by decide) (by decide) (by decide) (by decide) (by decide) (by decide) (by decide)
  have z99 : ∀ i, μ 99 i = 0 := fun i => hz 99 i (by decide) (by decide) (by decide) (by decide) (by decide) (by decide) (by decide) (by decide)
  have z100 : ∀ i, μ 100 i = 0 := fun i => hz 100 i (by decide) (by decide) (by decide) (by decide) (by decide) (by decide) (by decide) (by decide)
  have z101 : ∀ i, μ 101 i = 0 := fun i => hz 101 i (by decide) (by decide) (by decide) (by decide) (by decide) (by decide) (by decide) (by decide)
  have z102 : ∀ i, μ 102 i = 0 := fun i => hz 102 i (by decide) (by decide) (by decide) (by decide) (by decide) (by decide) (by decide) (by decide)
  have z103 : ∀ i, μ 103 i = 0 := fun i => hz 103 i (by decide) (by decide) (by decide) (by decide) (by decide) (by decide) (by decide) (by decide)
  have z104 : ∀ i, μ 104 i = 0 := fun i => hz 104 i (by decide) (by decide) (by decide) (by decide) (by decide) (by decide) (by decide) (by decide)
  have z105 : ∀ i, μ 105 i = 0 := fun i => hz 105 i (by decide) (by decide) (by decide) (by decide) (by decide) (by decide) (by decide) (by decide)
  have z106 : ∀ i, μ 106 i = 0 := fun i => hz 106 i (by decide) (by decide) (by decide) (by decide) (by decide) (by decide) (by decide) (by decide)
  have z107 : ∀ i, μ 107 i = 0 := fun i => hz 107 i (by decide) (by decide) (by decide) (by decide) (by decide) (by decide) (by decide) (by decide)
  have z108 : ∀ i, μ 108 i = 0 := fun i => hz 108 i (by decide) (by decide) (by decide) (by decide) (by decide) (by decide) (by decide) (by decide)
  have z109 : ∀ i, μ 109 i = 0 := fun i => hz 109 i (by decide) (by decide) (by decide) (by decide) (by decide) (by decide) (by decide) (by decide)
  have z110 : ∀ i, μ 110 i = 0 := fun i => hz 110 i (by decide) (by decide) (by decide) (by decide) (by decide) (by decide) (by decide) (by decide)
  have z111 : ∀ i, μ 111 i = 0 := fun i => hz 111 i (by decide) (by decide) (by decide) (by decide) (by decide) (by decide) (by decide) (by decide)
  have z112 : ∀ i, μ 112 i = 0 := fun i => hz 112 i (by decide) (by decide) (by decide) (by decide) (by decide) (by decide) (by decide) (by decide)
  have z113 : ∀ i, μ 113 i = 0 := fun i => hz 113 i (by decide) (by decide) (by decide) (by decide) (by decide) (by decide) (by decide) (by decide)
  have z114 : ∀ i, μ 114 i = 0 := fun i => hz 114 i (by decide) (by decide) (by decide) (by decide) (by decide) (by decide) (by decide) (by decide)
  have z115 : ∀ i, μ 115 i = 0 := fun i => hz 115 i (by decide) (by decide) (by decide) (by decide) (by decide) (by decide) (by decide) (by decide)
  have z116 : ∀ i, μ 116 i = 0 := fun i => hz 116 i (by decide) (by decide) (by decide) (by decide) (by decide) (by decide) (by decide) (by decide)
  have z117 : ∀ i, μ 117 i = 0 := fun i => hz 117 i (by decide) (by decide) (by decide) (by decide) (by decide) (by decide) (by decide) (by decide)
  have z118 : ∀ i, μ 118 i = 0 := fun i => hz 118 i (by decide) (by decide) (by decide) (by decide) (by decide) (by decide) (by decide) (by decide)
  have z119 : ∀ i, μ 119 i = 0 := fun i => hz 119 i (by decide) (by decide) (by decide) (by decide) (by decide) (by decide) (by decide) (by decide)
  have z120 : ∀ i, μ 120 i = 0 := fun i => hz 120 i (by decide) (by decide) (by decide) (by decide) (by decide) (by decide) (by decide) (by decide)
  have z121 : ∀ i, μ 121 i = 0 := fun i => hz 121 i (by decide) (by decide) (by decide) (by decide) (by decide) (by decide) (by decide) (by decide)
  have z122 : ∀ i, μ 122 i = 0 := fun i => hz 122 i (by decide) (by decide) (by decide) (by decide) (by decide) (by decide) (by decide) (by decide)
  have z123 : ∀ i, μ 123 i = 0 := fun i => hz 123 i (by decide) (by decide) (by decide) (by decide) (by decide) (by decide) (by decide) (by decide)
  have z124 : ∀ i, μ 124 i = 0 := fun i => hz 124 i (by decide) (by decide) (by decide) (by decide) (by decide) (by decide) (by decide) (by decide)
  have z125 : ∀ i, μ 125 i = 0 := fun i => hz 125 i (by decide) (by decide) (by decide) (by decide) (by decide) (by decide) (by decide) (by decide)
  have z126 : ∀ i, μ 126 i = 0 := fun i => hz 126 i (by decide) (by decide) (by decide) (by decide) (by decide) (by decide) (by decide) (by decide)
  have z127 : ∀ i, μ 127 i = 0 := fun i => hz 127 i (by decide) (by decide) (by decide) (by decide) (by decide) (by decide) (by decide) (by decide)
  have z128 : ∀ i, μ 128 i = 0 := fun i => hz 128 i (by decide) (by decide) (by decide) (by decide) (by decide) (by decide) (by decide) (by decide)
  have z129 : ∀ i, μ 129 i = 0 := fun i => hz 129 i (by decide) (by decide) (by decide) (by decide) (by decide) (by decide) (by decide) (by decide)
  have y0 : μ 74 0 = 0 := hy 0 (by decide) (by decide)
  have y1 : μ 74 1 = 0 := hy 1 (by decide) (by decide)
  have y2 : μ 74 2 = 0 := hy 2 (by decide) (by decide)
  have y3 : μ 74 3 = 0 := hy 3 (by decide) (by decide)
  have y4 : μ 74 4 = 0 := hy 4 (by decide) (by decide)
  have y5 : μ 74 5 = 0 := hy 5 (by decide) (by decide)
  have y6 : μ 74 6 = 0 := hy 6 (by decide) (by decide)
  have y7 : μ 74 7 = 0 := hy 7 (by decide) (by decide)
  have y8 : μ 74 8 = 0 := hy 8 (by decide) (by decide)
  have y9 : μ 74 9 = 0 := hy 9 (by decide) (by decide)
  have y10 : μ 74 10 = 0 := hy 10 (by decide) (by decide)
  have y11 : μ 74 11 = 0 := hy 11 (by decide) (by decide)
  have y12 : μ 74 12 = 0 := hy 12 (by decide) (by decide)
  have y13 : μ 74 13 = 0 := hy 13 (by decide) (by decide)
  have y14 : μ 74 14 = 0 := hy 14 (by decide) (by decide)
  have y15 : μ 74 15 = 0 := hy 15 (by decide) (by decide)
  have y16 : μ 74 16 = 0 := hy 16 (by decide) (by decide)
  have y17 : μ 74 17 = 0 := hy 17 (by decide) (by decide)
  have y18 : μ 74 18 = 0 := hy 18 (by decide) (by decide)
  have y19 : μ 74 19 = 0 := hy 19 (by decide) (by decide)
  have y20 : μ 74 20 = 0 := hy 20 (by decide) (by decide)
  have y21 : μ 74 21 = 0 := hy 21 (by decide) (by decide)
  have y22 : μ 74 22 = 0 := hy 22 (by decide) (by decide)
  have y23 : μ 74 23 = 0 := hy 23 (by decide) (by decide)
  have y24 : μ 74 24 = 0 := hy 24 (by decide) (by decide)
  have y25 : μ 74 25 = 0 := hy 25 (by decide) (by decide)
  have y28 : μ 74 28 = 0 := hy 28 (by decide) (by decide)
  have y29 : μ 74 29 = 0 := hy 29 (by decide) (by decide)
  have y30 : μ 74 30 = 0 := hy 30 (by decide) (by decide)
  have y31 : μ 74 31 = 0 := hy 31 (by decide) (by decide)
  have y32 : μ 74 32 = 0 := hy 32 (by decide) (by decide)
  have y33 : μ 74 33 = 0 := hy 33 (by decide) (by decide)
  have y34 : μ 74 34 = 0 := hy 34 (by decide) (by decide)
  have y35 : μ 74 35 = 0 := hy 35 (by decide) (by decide)
  have y36 : μ 74 36 = 0 := hy 36 (by decide) (by decide)
  have y37 : μ 74 37 = 0 := hy 37 (by decide) (by decide)
  have y38 : μ 74 38 = 0 := hy 38 (by decide) (by decide)
  have y39 : μ 74 39 = 0 := hy 39 (by decide) (by decide)
  have y40 : μ 74 40 = 0 := hy 40 (by decide) (by decide)
  have y41 : μ 74 41 = 0 := hy 41 (by decide) (by decide)
  have y42 : μ 74 42 = 0 := hy 42 (by decide) (by decide)
  have y43 : μ 74 43 = 0 := hy 43 (by decide) (by decide)
  have y44 : μ 74 44 = 0 := hy 44 (by decide) (by decide)
  have y45 : μ 74 45 = 0 := hy 45 (by decide) (by decide)
  have y46 : μ 74 46 = 0 := hy 46 (by decide) (by decide)
  have y47 : μ 74 47 = 0 := hy 47 (by decide) (by decide)
  have y48 : μ 74 48 = 0 := hy 48 (by decide) (by decide)
  have y49 : μ 74 49 = 0 := hy 49 (by decide) (by decide)
  have y50 : μ 74 50 = 0 := hy 50 (by decide) (by decide)
  have y51 : μ 74 51 = 0 := hy 51 (by decide) (by decide)
  have y52 : μ 74 52 = 0 := hy 52 (by decide) (by decide)
  have y53 : μ 74 53 = 0 := hy 53 (by decide) (by decide)
  have y54 : μ 74 54 = 0 := hy 54 (by decide) (by decide)
  have y55 : μ 74 55 = 0 := hy 55 (by decide) (by decide)
  have y56 : μ 74 56 = 0 := hy 56 (by decide) (by decide)
  have y57 : μ 74 57 = 0 := hy 57 (by decide) (by decide)
  have y58 : μ 74 58 = 0 := hy 58 (by decide) (by decide)
  have y59 : μ 74 59 = 0 := hy 59 (by decide) (by decide)
  have y60 : μ 74 60 = 0 := hy 60 (by decide) (by decide)
  have y61 : μ 74 61 = 0 := hy 61 (by decide) (by decide)
  have y62 : μ 74 62 = 0 := hy 62 (by decide) (by decide)
  have y63 : μ 74 63 = 0 := hy 63 (by decide) (by decide)
  have y64 : μ 74 64 = 0 := hy 64 (by decide) (by decide)
  have y65 : μ 74 65 = 0 := hy 65 (by decide) (by decide)
  have y66 : μ 74 66 = 0 := hy 66 (by decide) (by decide)
  have y67 : μ 74 67 = 0 := hy 67 (by decide) (by decide)
  have y68 : μ 74 68 = 0 := hy 68 (by decide) (by decide)
  have y69 : μ 74 69 = 0 := hy 69 (by decide) (by decide)
  have y70 : μ 74 70 = 0 := hy 70 (by decide) (by decide)
  have y71 : μ 74 71 = 0 := hy 71 (by decide) (by decide)
  have y72 : μ 74 72 = 0 := hy 72 (by decide) (by decide)
  have y73 : μ 74 73 = 0 := hy 73 (by decide) (by decide)
  have y74 : μ 74 74 = 0 := hy 74 (by decide) (by decide)
  have y75 : μ 74 75 = 0 := hy 75 (by decide) (by decide)
  have y76 : μ 74 76 = 0 := hy 76 (by decide) (by decide)
  have y77 : μ 74 77 = 0 := hy 77 (by decide) (by decide)
  have y78 : μ 74 78 = 0 := hy 78 (by decide) (by decide)
  have y79 : μ 74 79 = 0 := hy 79 (by decide) (by decide)
  have y80 : μ 74 80 = 0 := hy 80 (by decide) (by decide)
  have y81 : μ 74 81 = 0 := hy 81 (by decide) (by decide)
  have y82 : μ 74 82 = 0 := hy 82 (by decide) (by decide)
  have y83 : μ 74 83 = 0 := hy 83 (by decide) (by decide)
  have y84 : μ 74 84 = 0 := hy 84 (by decide) (by decide)
  have nl : ∀ c, ¬ lit μ c := fun c q => by have := q.2.2; rw [z117] at this; exact absurd this (by decide)
  have vac : ∀ {p : Prop} {k : Int}, 0 ≤ k → k < 0 → p := fun a b => by omega
  refine ⟨⟨?_, ?_, ?_⟩, ⟨?_, ?_⟩, ⟨?_, ?_, ?_⟩, ⟨⟨?_, ?_⟩, ?_, ⟨?_, ?_⟩, ?_⟩, ⟨⟨?_, ?_⟩, ⟨?_, ?_, ?_⟩, ?_, ?_, ?_, ?_⟩, ⟨⟨?_, ?_⟩, ?_, ?_, ?_, ?_, ?_⟩, ⟨?_, ?_, ?_, ?_, ?_, ?_, ?_⟩, ⟨?_, ?_, ?_, ?_, ?_⟩, Or.inl ⟨?_, ?_⟩, ⟨?_, ?_, ?_⟩, ⟨?_, ?_, ?_⟩, ⟨⟨?_, ?_, ?_, ?_⟩, ⟨?_, ?_, ?_, ?_, ?_, ?_⟩, ?_⟩, ⟨?_, ?_, ?_, ?_, ?_⟩, ?_, ⟨⟨?_, ?_⟩, ?_, ?_⟩⟩
  -- gT
  · rw [z0]; omega
  · rw [z0]; exact y2
  · intro i _ _; rw [z1, z75]; exact ⟨by omega, by decide⟩
  -- gD
  · rw [z0]; omega
  · rw [z0]; exact y4
  -- gO
  · rw [z0]; omega
  · rw [z0]; exact y54
  · intro i a b; rw [z0] at b; exact vac a b
  -- gW
  · rw [y20]; omega
  · intro w a b; rw [y20] at b; exact vac a b
  · intro v v' a b; rw [y20] at b; exact vac a b
  · rw [z4, y20]
  · intro w a b; rw [y20] at b; exact vac a b
  · intro w a b; rw [y20] at b; exact vac a b
  -- gM
  · rw [y21]; omega
  · intro k a b; rw [y21] at b; exact vac a b
  · rw [z7, y21]
  · intro a n a0 a1; rw [y20] at a1; exact vac a0 a1
  · intro k a b; rw [y21] at b; exact vac a b
  · intro k _ _; rw [z8]; decide
  · intro k a b; rw [y21] at b; exact vac a b
  · intro i j a b c; rw [y21] at c; exact vac (Int.le_trans a b) c
  · intro a n a0 a1 n0 n1; rw [y20] at a0; exact h15 _ (by omega) (by omega)
  -- gS
  · rw [y22]; omega
  · intro k a b; rw [y22] at b; exact vac a b
  · rw [z10, y22]
  · intro k _ _; rw [z11]; decide
  · intro k a b; rw [y22] at b; exact vac a b
  · intro i j a b c; rw [y22] at c; exact vac (Int.le_trans a b) c
  · intro v pl v0 v1 p0 p1
    exact Or.inl ⟨h18 _ (by omega) (by omega), fun k a b => by rw [y22] at b; exact vac a b⟩
  -- gC
  · rw [z20, y23]
  · rw [y23]; omega
  · intro k _ _; rw [z21, z22]; decide
  · intro k a b; rw [y23] at b; exact vac a b
  · intro i j a b c; rw [y23] at c; exact vac (Int.le_trans a b) c
  · intro c _ _; rw [z25, z89]; decide
  · rw [z19, cntW_none (fun c q => by rw [z89] at q; exact absurd q (by decide))]
  -- gL
  · rw [z54, y67]
  · rw [y67]; omega
  · intro k _ _; rw [z55, z56]; decide
  · intro k a b; rw [y67] at b; exact vac a b
  · intro i j a b c; rw [y67] at c; exact vac (Int.le_trans a b) c
  -- gF
  · exact y72
  · exact h63
  -- gU
  · rw [z64, y76]
  · rw [y76]; omega
  · intro k a b; rw [y76] at b; exact vac a b
  -- gR
  · rw [z68, y81]
  · rw [y81]; omega
  · intro g a b; rw [y81] at b; exact vac a b
  -- gG
  · intro c _ _; rw [z117, z118]; decide
  · intro c q; exact absurd q (nl c)
  · intro x _ _; rw [z111, z112]; exact ⟨by decide, by decide, fun q => absurd q (by decide), fun q => absurd q (by decide)⟩
  · intro c k q; exact absurd q (nl c)
  · intro c _ _; rw [z49, z117]; rfl
  · intro c q; exact absurd q (nl c)
  · intro x a b; rw [h50 x a b, h51 x a b, z111, z112]; decide
  · intro c o _ _ _ _; exact Or.inl ⟨h53 _ (by omega) (by omega), fun k k' q => nl c q.1⟩
  · rw [z46, cntW_none (fun c q => by rw [z117] at q; exact absurd q (by decide))]
  · rw [z46, lenS_z z49]
  · intro x _ _; rw [z52, z113]; decide
  -- gK
  · rw [y5]; omega
  · rw [h27, y5]; omega
  · rw [h26]; decide
  · exact Or.inl y56
  · intro q; rw [h27, y5] at q; exact absurd q (by decide)
  -- gP
  · intro c a b; rw [z44, z45, y21, y22]; exact ⟨by decide, by decide, Or.inl ⟨h43 c a b, z42 c⟩⟩
  -- gN
  · rw [z27]; omega
  · intro q _ _; rw [z28, z27]; decide
  · rw [z27]; decide
  · exact z37 0
theorem blank_9 : blankM mm_9 := by
  refine ⟨fun k i a1 a2 a3 a4 a5 a6 a7 a8 => ?_, fun i a b => ?_, fun i a b => ?_, fun i a b => ?_, fun i a b => ?_, fun i a b => ?_, fun i a b => ?_, fun i a b => ?_, fun i a b => ?_, ?_, ?_⟩ <;> simp [mm_9, mm_8, mm_7, mm_6, mm_5, mm_4, mm_3, mm_2, mm_1, mm_0, filC, st2] <;> simp_all
end Start
