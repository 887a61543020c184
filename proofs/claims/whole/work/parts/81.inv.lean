/-! THE INVARIANT between calls, by groups; what a group looks at -/
section SpecInv
/-- nothing has changed but in the cells S and the fields T -/
def FrX (S : List Nat) (T : List (Nat × Int)) (μ ν : xMem) : Prop := ∀ k i, k ∉ S → (k, i) ∉ T → ν k i = μ k i
theorem FrX.rf {S : List Nat} {T : List (Nat × Int)} {μ : xMem} : FrX S T μ μ := fun _ _ _ _ => rfl
theorem FrX.tr {S S' : List Nat} {T T' : List (Nat × Int)} {m1 m2 m3 : xMem} (h1 : FrX S T m1 m2) (h2 : FrX S' T' m2 m3) : FrX (S ++ S') (T ++ T') m1 m3 := fun k i a b => (h2 k i (fun z => a (List.mem_append_right _ z)) (fun z => b (List.mem_append_right _ z))).trans (h1 k i (fun z => a (List.mem_append_left _ z)) (fun z => b (List.mem_append_left _ z)))
theorem FrX.tr' {S : List Nat} {T : List (Nat × Int)} {m1 m2 m3 : xMem} (h1 : FrX S T m1 m2) (h2 : FrX S T m2 m3) : FrX S T m1 m3 := fun k i a b => (h2 k i a b).trans (h1 k i a b)
theorem FrX.sub {S S' : List Nat} {T T' : List (Nat × Int)} {μ ν : xMem} (h : FrX S T μ ν) (h1 : S.all (fun k => S'.contains k) = true) (h2 : T.all (fun q => S'.contains q.1 || T'.contains q) = true) : FrX S' T' μ ν := by
  intro k i a b
  refine h k i (fun z => a ?_) (fun z => ?_)
  · have := List.all_eq_true.mp h1 k z
    simpa using this
  · have := List.all_eq_true.mp h2 (k, i) z
    simp at this
    rcases this with q | q
    · exact a q
    · exact b q
def dj (A : List Nat) (B : List (Nat × Int)) (S : List Nat) (T : List (Nat × Int)) : Bool := A.all (fun k => !S.contains k && T.all (fun q => q.1 != k)) && B.all (fun q => !S.contains q.1 && !T.contains q)
theorem FrX.a {A : List Nat} {B : List (Nat × Int)} {S : List Nat} {T : List (Nat × Int)} {μ ν : xMem} (h : FrX S T μ ν) (hd : dj A B S T = true) {k : Nat} (hk : A.contains k = true) : ν k = μ k := by
  funext i
  unfold dj at hd
  rw [Bool.and_eq_true] at hd
  have := List.all_eq_true.mp hd.1 k (by simpa using hk)
  rw [Bool.and_eq_true] at this
  refine h k i (by simpa using this.1) (fun z => ?_)
  have q := List.all_eq_true.mp this.2 (k, i) z
  simp at q
theorem FrX.b {A : List Nat} {B : List (Nat × Int)} {S : List Nat} {T : List (Nat × Int)} {μ ν : xMem} (h : FrX S T μ ν) (hd : dj A B S T = true) {k : Nat} {i : Int} (hk : B.contains (k, i) = true) : ν k i = μ k i := by
  unfold dj at hd
  rw [Bool.and_eq_true] at hd
  have := List.all_eq_true.mp hd.2 (k, i) (by simpa using hk)
  rw [Bool.and_eq_true] at this
  exact h k i (by simpa using this.1) (by simpa using this.2)
/-- a cell, a field that isn't among the changed ones -/
theorem FrX.k {S : List Nat} {T : List (Nat × Int)} {μ ν : xMem} (h : FrX S T μ ν) (k : Nat) (hd : dj [k] [] S T = true) : ν k = μ k := h.a hd (by simp)
theorem FrX.f {S : List Nat} {T : List (Nat × Int)} {μ ν : xMem} (h : FrX S T μ ν) (k : Nat) (i : Int) (hd : dj [] [(k, i)] S T = true) : ν k i = μ k i := h.b hd (by simp)
theorem FrX.st {μ : xMem} {k : Nat} {i v : Int} : FrX [] [(k, i)] μ (st2 μ k i v) := fun k' i' _ b => by
  unfold st2
  rw [if_neg (fun z => b (by rw [z.1, z.2]; simp))]
theorem FrX.sa {μ : xMem} {k : Nat} {i v : Int} : FrX [k] [] μ (st2 μ k i v) := fun k' i' a _ => by
  unfold st2
  rw [if_neg (fun z => a (by rw [z.1]; simp))]
theorem FrX.cp {μ : xMem} {ks kd : Nat} {sp dp n : Int} : FrX [kd] [] μ (cpy μ ks sp kd dp n) := fun k' i' a _ => by
  unfold cpy
  rw [if_neg (fun z => a (by rw [z.1]; simp))]
theorem st_s (μ : xMem) (k : Nat) (i v : Int) : st2 μ k i v k i = v := by simp [st2]
theorem st_o (μ : xMem) (k : Nat) (i v j : Int) (h : j ≠ i) : st2 μ k i v k j = μ k j := by simp [st2, h]
theorem st_n (μ : xMem) (k k' : Nat) (i v j : Int) (h : k' ≠ k) : st2 μ k i v k' j = μ k' j := by simp [st2, h]
theorem st_f (μ : xMem) (k k' : Nat) (i v : Int) (h : k' ≠ k) : st2 μ k i v k' = μ k' := by funext j; simp [st2, h]
theorem st_i (μ : xMem) (k : Nat) (i v j : Int) : st2 μ k i v k j = if j = i then v else μ k j := by simp [st2]
variable {μ ν α : xMem}

/-- where a light's k-th cell lies -/
def cel (μ : xMem) (c k : Int) : Int := if μ 118 c = 1 then 9 * (μ 109 c + k) + μ 110 c else 9 * μ 109 c + μ 110 c + k
def lit (μ : xMem) (c : Int) : Prop := 0 ≤ c ∧ c < 16 ∧ μ 117 c = 1
/-- the k-th cell of c is the k'-th one of o, which goes the other way -/
def crs (μ : xMem) (c o k k' : Int) : Prop := lit μ c ∧ lit μ o ∧ μ 118 c ≠ μ 118 o ∧ (0 ≤ k ∧ k < μ 89 c) ∧ (0 ≤ k' ∧ k' < μ 89 o) ∧ cel μ c k = cel μ o k'
/-- the model's grid is well -/
def wfG (μ : xMem) : Prop := (∀ c, 0 ≤ c → c < 16 → (μ 117 c = 0 ∨ μ 117 c = 1) ∧ (μ 118 c = 0 ∨ μ 118 c = 1)) ∧ (∀ c, lit μ c → (0 ≤ μ 109 c ∧ μ 109 c ≤ 8) ∧ (0 ≤ μ 110 c ∧ μ 110 c ≤ 8) ∧ (1 ≤ μ 89 c ∧ μ 89 c ≤ 9) ∧ (if μ 118 c = 1 then μ 109 c else μ 110 c) + μ 89 c ≤ 9) ∧
  (∀ x, 0 ≤ x → x < 81 → (0 ≤ μ 111 x ∧ μ 111 x ≤ 16) ∧ (0 ≤ μ 112 x ∧ μ 112 x ≤ 16) ∧ (0 < μ 111 x → lit μ (μ 111 x - 1) ∧ μ 118 (μ 111 x - 1) = 0 ∧ ∃ k, 0 ≤ k ∧ k < μ 89 (μ 111 x - 1) ∧ cel μ (μ 111 x - 1) k = x) ∧ (0 < μ 112 x → lit μ (μ 112 x - 1) ∧ μ 118 (μ 112 x - 1) = 1 ∧ ∃ k, 0 ≤ k ∧ k < μ 89 (μ 112 x - 1) ∧ cel μ (μ 112 x - 1) k = x)) ∧
  ∀ c k, lit μ c → 0 ≤ k → k < μ 89 c → (μ 118 c = 0 → μ 111 (cel μ c k) = c + 1) ∧ (μ 118 c = 1 → μ 112 (cel μ c k) = c + 1)
/-- the letters of all lights ahead of c -/
def lenS (μ : xMem) : Nat → Int
  | 0 => 0
  | n + 1 => lenS μ n + μ 49 n
def rlG (μ : xMem) : Prop := (∀ c, 0 ≤ c → c < 16 → μ 49 c = if μ 117 c = 1 then μ 89 c else 0) ∧ (∀ c, lit μ c → μ 47 c = 9 * μ 109 c + μ 110 c ∧ μ 48 c = if μ 118 c = 1 then 9 else 1) ∧ (∀ x, 0 ≤ x → x < 81 → μ 50 x = μ 111 x - 1 ∧ μ 51 x = μ 112 x - 1) ∧
  (∀ c o, 0 ≤ c → c < 16 → 0 ≤ o → o < 16 → (μ 53 (c * 16 + o) = -1 ∧ ∀ k k', ¬ crs μ c o k k') ∨ ∃ k', crs μ c o (μ 53 (c * 16 + o)) k') ∧ μ 46 9 = cntW (fun c => μ 117 c = 1) 16 ∧ μ 46 10 = lenS μ 16

/-- the telling of c that counts on day t -/
def isTl (μ : xMem) (c t tl : Int) : Prop := (0 ≤ tl ∧ tl < μ 74 23) ∧ μ 85 tl = c ∧ μ 86 tl ≤ t ∧ ∀ k, tl < k → k < μ 74 23 → μ 86 k ≤ t → μ 85 k ≠ c
def pos (μ : xMem) (c w t : Int) : Prop := ∃ tl, isTl μ c t tl ∧ (0 ≤ w ∧ w < μ 74 20) ∧ μ 78 w ≤ t ∧ μ 77 w = μ 89 c ∧ 0 < (wh μ tl w t).1
/-- the model's list of what is possible -/
def Can (μ : xMem) (t : Int) : Prop := ∀ c w, 0 ≤ c → c < 16 → 0 ≤ w → w < 120 → μ 108 (120 * c + w) = ind (pos μ c w t)
def gK (N : Int) (μ : xMem) : Prop := (0 ≤ μ 74 5 ∧ μ 74 5 ≤ N) ∧ (-1 ≤ μ 74 27 ∧ μ 74 27 ≤ μ 74 5) ∧ iR (μ 74 26) ∧ (μ 74 56 = 0 ∨ μ 74 56 = 1) ∧ (μ 74 27 = μ 74 5 → Kn μ (μ 74 26) μ ∧ (μ 74 56 = 1 → Can μ (μ 74 26)))
/-- the class's list of what is possible, kept by its telling, meanings, signs -/
def lst (μ : xMem) (c tl km ks : Int) : Prop := (0 ≤ μ 42 c ∧ μ 42 c ≤ μ 74 20) ∧ (∀ i j, 0 ≤ i → i < j → j < μ 42 c → μ 41 (c * 120 + i) < μ 41 (c * 120 + j)) ∧ (∀ i, 0 ≤ i → i < μ 42 c → 0 ≤ μ 41 (c * 120 + i) ∧ μ 41 (c * 120 + i) < μ 74 20) ∧ ∀ t, kP μ t km → kS μ t ks → ∀ w, 0 ≤ w → w < μ 74 20 → ((∃ i, 0 ≤ i ∧ i < μ 42 c ∧ μ 41 (c * 120 + i) = w) ↔ (μ 77 w = μ 89 c ∧ 0 < (wh μ tl w t).1))
def gP (μ : xMem) : Prop := ∀ c, 0 ≤ c → c < 16 → (0 ≤ μ 44 c ∧ μ 44 c ≤ μ 74 21) ∧ (0 ≤ μ 45 c ∧ μ 45 c ≤ μ 74 22) ∧ ((μ 43 c = -1 ∧ μ 42 c = 0) ∨ ((0 ≤ μ 43 c ∧ μ 43 c < μ 74 23) ∧ μ 85 (μ 43 c) = c ∧ lst μ c (μ 43 c) (μ 44 c) (μ 45 c)))
def gN (N : Int) (μ : xMem) : Prop := StB μ ∧ μ 27 6 ≤ 2000 * N ∧ μ 37 0 = 0

def gT (μ : xMem) : Prop := (0 ≤ μ 0 1 ∧ μ 0 1 ≤ 180) ∧ μ 74 2 = μ 0 1 ∧ ∀ i, 0 ≤ i → i < 180 → (0 ≤ μ 1 i ∧ μ 1 i ≤ 255) ∧ μ 75 i = j8 (μ 1 i)
theorem gT.kept {S : List Nat} {T : List (Nat × Int)} (h : gT μ) (hf : FrX S T μ ν) (hd : dj [1, 75] [(0, 1), (74, 2)] S T = true) : gT ν := by
  have e1 : ν 1 = μ 1 := hf.a hd (by decide)
  have e75 : ν 75 = μ 75 := hf.a hd (by decide)
  have f0_1 : ν 0 1 = μ 0 1 := hf.b hd (by decide)
  have f74_2 : ν 74 2 = μ 74 2 := hf.b hd (by decide)
  unfold gT at *
  simp only [e1, e75, f0_1, f74_2]
  exact h
def gD (μ : xMem) : Prop := (0 ≤ μ 0 2 ∧ μ 0 2 ≤ 999) ∧ μ 74 4 = μ 0 2
theorem gD.kept {S : List Nat} {T : List (Nat × Int)} (h : gD μ) (hf : FrX S T μ ν) (hd : dj [] [(0, 2), (74, 4)] S T = true) : gD ν := by
  have f0_2 : ν 0 2 = μ 0 2 := hf.b hd (by decide)
  have f74_4 : ν 74 4 = μ 74 4 := hf.b hd (by decide)
  unfold gD at *
  simp only [f0_2, f74_4]
  exact h
def gO (μ : xMem) : Prop := (0 ≤ μ 0 4 ∧ μ 0 4 ≤ 36) ∧ μ 74 54 = μ 0 4 ∧ ∀ i, 0 ≤ i → i < μ 0 4 → μ 2 i = μ 107 i ∧ 0 ≤ μ 107 i ∧ μ 107 i ≤ 127
theorem gO.kept {S : List Nat} {T : List (Nat × Int)} (h : gO μ) (hf : FrX S T μ ν) (hd : dj [2, 107] [(0, 4), (74, 54)] S T = true) : gO ν := by
  have e2 : ν 2 = μ 2 := hf.a hd (by decide)
  have e107 : ν 107 = μ 107 := hf.a hd (by decide)
  have f0_4 : ν 0 4 = μ 0 4 := hf.b hd (by decide)
  have f74_54 : ν 74 54 = μ 74 54 := hf.b hd (by decide)
  unfold gO at *
  simp only [e2, e107, f0_4, f74_54]
  exact h
def gW (μ : xMem) : Prop := wfW μ ∧ wfD μ ∧ rlW μ μ ∧ ∀ w, 0 ≤ w → w < μ 74 20 → μ 5 w = μ 78 w ∧ 0 ≤ μ 78 w ∧ μ 78 w ≤ μ 74 4
theorem gW.kept {S : List Nat} {T : List (Nat × Int)} (h : gW μ) (hf : FrX S T μ ν) (hd : dj [5, 13, 14, 76, 77, 78] [(4, 2), (74, 20), (74, 4)] S T = true) : gW ν := by
  have e5 : ν 5 = μ 5 := hf.a hd (by decide)
  have e13 : ν 13 = μ 13 := hf.a hd (by decide)
  have e14 : ν 14 = μ 14 := hf.a hd (by decide)
  have e76 : ν 76 = μ 76 := hf.a hd (by decide)
  have e77 : ν 77 = μ 77 := hf.a hd (by decide)
  have e78 : ν 78 = μ 78 := hf.a hd (by decide)
  have f4_2 : ν 4 2 = μ 4 2 := hf.b hd (by decide)
  have f74_20 : ν 74 20 = μ 74 20 := hf.b hd (by decide)
  have f74_4 : ν 74 4 = μ 74 4 := hf.b hd (by decide)
  unfold gW wfW wfD rlW at *
  simp only [e5, e13, e14, e76, e77, e78, f4_2, f74_20, f74_4]
  exact h
def gM (μ : xMem) : Prop := wfM μ ∧ rlM μ μ ∧ (∀ k, 0 ≤ k → k < 240 → iR (μ 8 k)) ∧ (∀ k, 0 ≤ k → k < μ 74 21 → μ 8 k = μ 81 k ∧ 0 ≤ μ 81 k ∧ μ 81 k ≤ μ 74 4 ∧ μ 78 (μ 80 k) ≤ μ 81 k) ∧ (∀ i j, 0 ≤ i → i ≤ j → j < μ 74 21 → μ 81 i ≤ μ 81 j) ∧ ∀ a n, μ 74 20 ≤ a → a < 120 → 0 ≤ n → n ≤ 10 → μ 15 (a * 11 + n) = -1
theorem gM.kept {S : List Nat} {T : List (Nat × Int)} (h : gM μ) (hf : FrX S T μ ν) (hd : dj [8, 15, 16, 17, 77, 78, 79, 80, 81] [(7, 2), (74, 20), (74, 21), (74, 4)] S T = true) : gM ν := by
  have e8 : ν 8 = μ 8 := hf.a hd (by decide)
  have e15 : ν 15 = μ 15 := hf.a hd (by decide)
  have e16 : ν 16 = μ 16 := hf.a hd (by decide)
  have e17 : ν 17 = μ 17 := hf.a hd (by decide)
  have e77 : ν 77 = μ 77 := hf.a hd (by decide)
  have e78 : ν 78 = μ 78 := hf.a hd (by decide)
  have e79 : ν 79 = μ 79 := hf.a hd (by decide)
  have e80 : ν 80 = μ 80 := hf.a hd (by decide)
  have e81 : ν 81 = μ 81 := hf.a hd (by decide)
  have f7_2 : ν 7 2 = μ 7 2 := hf.b hd (by decide)
  have f74_20 : ν 74 20 = μ 74 20 := hf.b hd (by decide)
  have f74_21 : ν 74 21 = μ 74 21 := hf.b hd (by decide)
  have f74_4 : ν 74 4 = μ 74 4 := hf.b hd (by decide)
  unfold gM wfM rlM lastCh inCh at *
  simp only [e8, e15, e16, e17, e77, e78, e79, e80, e81, f7_2, f74_20, f74_21, f74_4]
  exact h
def gS (μ : xMem) : Prop := wfS μ ∧ μ 10 2 = μ 74 22 ∧ (∀ k, 0 ≤ k → k < 120 → iR (μ 11 k)) ∧ (∀ k, 0 ≤ k → k < μ 74 22 → μ 11 k = μ 84 k ∧ 0 ≤ μ 84 k ∧ μ 84 k ≤ μ 74 4) ∧ (∀ i j, 0 ≤ i → i ≤ j → j < μ 74 22 → μ 84 i ≤ μ 84 j) ∧ ∀ v pl, 0 ≤ v → v < 120 → 0 ≤ pl → pl < 10 → (μ 18 (v * 10 + pl) = -1 ∧ ∀ k, 0 ≤ k → k < μ 74 22 → ¬ (μ 82 k = v ∧ μ 83 k = pl)) ∨ (0 ≤ μ 18 (v * 10 + pl) ∧ μ 18 (v * 10 + pl) < μ 74 22 ∧ μ 82 (μ 18 (v * 10 + pl)) = v ∧ μ 83 (μ 18 (v * 10 + pl)) = pl)
theorem gS.kept {S : List Nat} {T : List (Nat × Int)} (h : gS μ) (hf : FrX S T μ ν) (hd : dj [11, 18, 82, 83, 84] [(10, 2), (74, 20), (74, 22), (74, 4)] S T = true) : gS ν := by
  have e11 : ν 11 = μ 11 := hf.a hd (by decide)
  have e18 : ν 18 = μ 18 := hf.a hd (by decide)
  have e82 : ν 82 = μ 82 := hf.a hd (by decide)
  have e83 : ν 83 = μ 83 := hf.a hd (by decide)
  have e84 : ν 84 = μ 84 := hf.a hd (by decide)
  have f10_2 : ν 10 2 = μ 10 2 := hf.b hd (by decide)
  have f74_20 : ν 74 20 = μ 74 20 := hf.b hd (by decide)
  have f74_22 : ν 74 22 = μ 74 22 := hf.b hd (by decide)
  have f74_4 : ν 74 4 = μ 74 4 := hf.b hd (by decide)
  unfold gS wfS at *
  simp only [e11, e18, e82, e83, e84, f10_2, f74_20, f74_22, f74_4]
  exact h
def gC (μ : xMem) : Prop := μ 20 2 = μ 74 23 ∧ (0 ≤ μ 74 23 ∧ μ 74 23 ≤ 60) ∧ (∀ k, 0 ≤ k → k < 60 → iR (μ 21 k) ∧ iR (μ 22 k)) ∧ (∀ k, 0 ≤ k → k < μ 74 23 → μ 21 k = μ 86 k ∧ (0 ≤ μ 86 k ∧ μ 86 k ≤ μ 74 4) ∧ μ 22 k = μ 85 k ∧ (0 ≤ μ 85 k ∧ μ 85 k < 16) ∧ 0 < μ 89 (μ 85 k) ∧ μ 24 k = μ 87 k ∧ clW μ k ∧ ∀ p, 0 ≤ p → p < μ 87 k → μ 23 (k * 8 + p) = cwd μ k p) ∧ (∀ i j, 0 ≤ i → i ≤ j → j < μ 74 23 → μ 86 i ≤ μ 86 j) ∧ (∀ c, 0 ≤ c → c < 16 → μ 25 c = μ 89 c ∧ 0 ≤ μ 89 c ∧ μ 89 c ≤ 10) ∧ μ 19 4 = cntW (fun c => 0 < μ 89 c) 16
theorem gC.kept {S : List Nat} {T : List (Nat × Int)} (h : gC μ) (hf : FrX S T μ ν) (hd : dj [21, 22, 23, 24, 25, 85, 86, 87, 88, 89] [(19, 4), (20, 2), (74, 20), (74, 23), (74, 4)] S T = true) : gC ν := by
  have e21 : ν 21 = μ 21 := hf.a hd (by decide)
  have e22 : ν 22 = μ 22 := hf.a hd (by decide)
  have e23 : ν 23 = μ 23 := hf.a hd (by decide)
  have e24 : ν 24 = μ 24 := hf.a hd (by decide)
  have e25 : ν 25 = μ 25 := hf.a hd (by decide)
  have e85 : ν 85 = μ 85 := hf.a hd (by decide)
  have e86 : ν 86 = μ 86 := hf.a hd (by decide)
  have e87 : ν 87 = μ 87 := hf.a hd (by decide)
  have e88 : ν 88 = μ 88 := hf.a hd (by decide)
  have e89 : ν 89 = μ 89 := hf.a hd (by decide)
  have f19_4 : ν 19 4 = μ 19 4 := hf.b hd (by decide)
  have f20_2 : ν 20 2 = μ 20 2 := hf.b hd (by decide)
  have f74_20 : ν 74 20 = μ 74 20 := hf.b hd (by decide)
  have f74_23 : ν 74 23 = μ 74 23 := hf.b hd (by decide)
  have f74_4 : ν 74 4 = μ 74 4 := hf.b hd (by decide)
  unfold gC clW cwd at *
  simp only [e21, e22, e23, e24, e25, e85, e86, e87, e88, e89, f19_4, f20_2, f74_20, f74_23, f74_4]
  exact h
def gL (μ : xMem) : Prop := μ 54 2 = μ 74 67 ∧ (0 ≤ μ 74 67 ∧ μ 74 67 ≤ 60) ∧ (∀ k, 0 ≤ k → k < 60 → iR (μ 55 k) ∧ iR (μ 56 k)) ∧ (∀ k, 0 ≤ k → k < μ 74 67 → μ 55 k = μ 116 k ∧ (0 ≤ μ 116 k ∧ μ 116 k ≤ μ 74 4) ∧ μ 56 k = μ 114 k ∧ (0 ≤ μ 114 k ∧ μ 114 k < 16) ∧ μ 57 k = μ 115 k ∧ (0 ≤ μ 115 k ∧ μ 115 k < μ 74 20) ∧ μ 77 (μ 115 k) = μ 89 (μ 114 k)) ∧ ∀ i j, 0 ≤ i → i ≤ j → j < μ 74 67 → μ 116 i ≤ μ 116 j
theorem gL.kept {S : List Nat} {T : List (Nat × Int)} (h : gL μ) (hf : FrX S T μ ν) (hd : dj [55, 56, 57, 77, 89, 114, 115, 116] [(54, 2), (74, 20), (74, 67), (74, 4)] S T = true) : gL ν := by
  have e55 : ν 55 = μ 55 := hf.a hd (by decide)
  have e56 : ν 56 = μ 56 := hf.a hd (by decide)
  have e57 : ν 57 = μ 57 := hf.a hd (by decide)
  have e77 : ν 77 = μ 77 := hf.a hd (by decide)
  have e89 : ν 89 = μ 89 := hf.a hd (by decide)
  have e114 : ν 114 = μ 114 := hf.a hd (by decide)
  have e115 : ν 115 = μ 115 := hf.a hd (by decide)
  have e116 : ν 116 = μ 116 := hf.a hd (by decide)
  have f54_2 : ν 54 2 = μ 54 2 := hf.b hd (by decide)
  have f74_20 : ν 74 20 = μ 74 20 := hf.b hd (by decide)
  have f74_67 : ν 74 67 = μ 74 67 := hf.b hd (by decide)
  have f74_4 : ν 74 4 = μ 74 4 := hf.b hd (by decide)
  unfold gL at *
  simp only [e55, e56, e57, e77, e89, e114, e115, e116, f54_2, f74_20, f74_67, f74_4]
  exact h
def gF (μ : xMem) : Prop := (μ 74 72 = 0 ∧ ∀ c, 0 ≤ c → c < 16 → μ 63 c = -1) ∨ (μ 74 72 = 1 ∧ ∀ c, 0 ≤ c → c < 16 → μ 63 c = μ 122 c ∧ iR (μ 122 c))
theorem gF.kept {S : List Nat} {T : List (Nat × Int)} (h : gF μ) (hf : FrX S T μ ν) (hd : dj [63, 122] [(74, 72)] S T = true) : gF ν := by
  have e63 : ν 63 = μ 63 := hf.a hd (by decide)
  have e122 : ν 122 = μ 122 := hf.a hd (by decide)
  have f74_72 : ν 74 72 = μ 74 72 := hf.b hd (by decide)
  unfold gF at *
  simp only [e63, e122, f74_72]
  exact h
def gU (μ : xMem) : Prop := μ 64 5 = μ 74 76 ∧ (0 ≤ μ 74 76 ∧ μ 74 76 ≤ 80) ∧ ∀ k, 0 ≤ k → k < μ 74 76 → μ 65 k = μ 124 k ∧ μ 66 k = μ 125 k ∧ iR (μ 124 k) ∧ iR (μ 125 k)
theorem gU.kept {S : List Nat} {T : List (Nat × Int)} (h : gU μ) (hf : FrX S T μ ν) (hd : dj [65, 66, 124, 125] [(64, 5), (74, 76)] S T = true) : gU ν := by
  have e65 : ν 65 = μ 65 := hf.a hd (by decide)
  have e66 : ν 66 = μ 66 := hf.a hd (by decide)
  have e124 : ν 124 = μ 124 := hf.a hd (by decide)
  have e125 : ν 125 = μ 125 := hf.a hd (by decide)
  have f64_5 : ν 64 5 = μ 64 5 := hf.b hd (by decide)
  have f74_76 : ν 74 76 = μ 74 76 := hf.b hd (by decide)
  unfold gU at *
  simp only [e65, e66, e124, e125, f64_5, f74_76]
  exact h
def gR (μ : xMem) : Prop := μ 68 2 = μ 74 81 ∧ (0 ≤ μ 74 81 ∧ μ 74 81 ≤ 30) ∧ (∀ g, 0 ≤ g → g < μ 74 81 → μ 69 g = μ 128 g ∧ (0 ≤ μ 128 g ∧ μ 128 g ≤ μ 74 4) ∧ μ 72 g = μ 127 g ∧ (0 ≤ μ 127 g ∧ μ 127 g ≤ 160) ∧ ∀ i, 0 ≤ i → i < μ 127 g → μ 71 (g * 160 + i) = μ 126 (160 * g + i) ∧ 97 ≤ μ 126 (160 * g + i) ∧ μ 126 (160 * g + i) ≤ 122)
theorem gR.kept {S : List Nat} {T : List (Nat × Int)} (h : gR μ) (hf : FrX S T μ ν) (hd : dj [69, 71, 72, 126, 127, 128] [(68, 2), (74, 81), (74, 4)] S T = true) : gR ν := by
  have e69 : ν 69 = μ 69 := hf.a hd (by decide)
  have e71 : ν 71 = μ 71 := hf.a hd (by decide)
  have e72 : ν 72 = μ 72 := hf.a hd (by decide)
  have e126 : ν 126 = μ 126 := hf.a hd (by decide)
  have e127 : ν 127 = μ 127 := hf.a hd (by decide)
  have e128 : ν 128 = μ 128 := hf.a hd (by decide)
  have f68_2 : ν 68 2 = μ 68 2 := hf.b hd (by decide)
  have f74_81 : ν 74 81 = μ 74 81 := hf.b hd (by decide)
  have f74_4 : ν 74 4 = μ 74 4 := hf.b hd (by decide)
  unfold gR at *
  simp only [e69, e71, e72, e126, e127, e128, f68_2, f74_81, f74_4]
  exact h
def gG (μ : xMem) : Prop := wfG μ ∧ rlG μ ∧ (∀ x, 0 ≤ x → x < 81 → μ 52 x = μ 113 x ∧ 0 ≤ μ 113 x ∧ μ 113 x ≤ 26)
theorem gG.kept {S : List Nat} {T : List (Nat × Int)} (h : gG μ) (hf : FrX S T μ ν) (hd : dj [47, 48, 49, 50, 51, 52, 53, 89, 109, 110, 111, 112, 113, 117, 118] [(46, 9), (46, 10)] S T = true) : gG ν := by
  have e47 : ν 47 = μ 47 := hf.a hd (by decide)
  have e48 : ν 48 = μ 48 := hf.a hd (by decide)
  have e49 : ν 49 = μ 49 := hf.a hd (by decide)
  have e50 : ν 50 = μ 50 := hf.a hd (by decide)
  have e51 : ν 51 = μ 51 := hf.a hd (by decide)
  have e52 : ν 52 = μ 52 := hf.a hd (by decide)
  have e53 : ν 53 = μ 53 := hf.a hd (by decide)
  have e89 : ν 89 = μ 89 := hf.a hd (by decide)
  have e109 : ν 109 = μ 109 := hf.a hd (by decide)
  have e110 : ν 110 = μ 110 := hf.a hd (by decide)
  have e111 : ν 111 = μ 111 := hf.a hd (by decide)
  have e112 : ν 112 = μ 112 := hf.a hd (by decide)
  have e113 : ν 113 = μ 113 := hf.a hd (by decide)
  have e117 : ν 117 = μ 117 := hf.a hd (by decide)
  have e118 : ν 118 = μ 118 := hf.a hd (by decide)
  have f46_9 : ν 46 9 = μ 46 9 := hf.b hd (by decide)
  have f46_10 : ν 46 10 = μ 46 10 := hf.b hd (by decide)
  have eS : ∀ n, lenS ν n = lenS μ n := fun n => by induction n with | zero => rfl | succ n ih => rw [lenS, lenS, ih, e49]
  unfold gG wfG rlG crs cel lit at *
  simp only [e47, e48, e49, e50, e51, e52, e53, e89, e109, e110, e111, e112, e113, e117, e118, f46_9, f46_10, eS]
  exact h
end SpecInv
section SpecInvM
variable {μ ν α : xMem}
/-- the model's lists are the same -/
theorem MA.of {S : List Nat} {T : List (Nat × Int)} (hf : FrX S T μ ν) (hd : dj [76, 77, 78, 79, 80, 81, 82, 83, 84, 85, 86, 87, 88, 89] [(74, 20), (74, 21), (74, 22), (74, 23)] S T = true) : MA μ ν := by
  refine ⟨fun k i a b => ?_, fun i a b => ?_⟩
  · have hk : k ∈ [76, 77, 78, 79, 80, 81, 82, 83, 84, 85, 86, 87, 88, 89] := by simp; omega
    exact congrFun (hf.a hd (by simpa using hk)) i
  · have hk : ((74 : Nat), i) ∈ [((74 : Nat), (20 : Int)), (74, 21), (74, 22), (74, 23)] := by simp; omega
    exact hf.b hd (by simpa using hk)
theorem MA.k (h : MA μ ν) (k : Nat) (h1 : 76 ≤ k) (h2 : k ≤ 89) : ν k = μ k := funext fun i => h.1 k i h1 h2
theorem MA.rf : MA μ μ := ⟨fun _ _ _ _ => rfl, fun _ _ _ => rfl⟩
theorem MA.tr {m1 m2 m3 : xMem} (h1 : MA m1 m2) (h2 : MA m2 m3) : MA m1 m3 := ⟨fun k i a b => (h2.1 k i a b).trans (h1.1 k i a b), fun i a b => (h2.2 i a b).trans (h1.2 i a b)⟩
theorem isMn_eq (h : MA μ ν) : isMn ν = isMn μ := by
  funext t a b
  unfold isMn
  rw [h.k 79 (by decide) (by decide), h.k 80 (by decide) (by decide), h.k 81 (by decide) (by decide), h.2 21 (by decide) (by decide)]
theorem isSg_eq (h : MA μ ν) : isSg ν = isSg μ := by
  funext t a b
  unfold isSg
  rw [h.k 82 (by decide) (by decide), h.k 83 (by decide) (by decide), h.k 84 (by decide) (by decide), h.2 22 (by decide) (by decide)]
theorem cwd_eq (h : MA μ ν) : cwd ν = cwd μ := by
  funext a b
  unfold cwd
  rw [h.k 88 (by decide) (by decide)]
theorem fit_eq (h : MA μ ν) : fit ν = fit μ := by
  funext v ah be F len
  unfold fit
  rw [h.k 76 (by decide) (by decide), h.k 77 (by decide) (by decide)]
theorem tgF_eq (h : MA μ ν) : tgF ν = tgF μ := by
  funext w tg m
  unfold tgF ansF
  rw [h.k 76 (by decide) (by decide), h.k 77 (by decide) (by decide)]
theorem cntN_eq (h : MA μ ν) {t a : Int} {p : Int → Prop} : ∀ n, cntN ν t a p n = cntN μ t a p n
  | 0 => rfl
  | n + 1 => by rw [cntN, cntN, cntN_eq h n, h.k 79 (by decide) (by decide), h.k 80 (by decide) (by decide), h.k 81 (by decide) (by decide)]
theorem stN_eq (h : MA μ ν) {tl : Int} : ∀ n, stN ν tl n = stN μ tl n
  | 0 => rfl
  | n + 1 => by rw [stN, stN, stN_eq h n, h.k 77 (by decide) (by decide), cwd_eq h]
theorem txN_eq (h : MA μ ν) {tl : Int} : ∀ n m, txN ν tl n m = txN μ tl n m
  | 0, _ => rfl
  | n + 1, m => by rw [txN, txN, txN_eq h n m, stN_eq h, h.k 76 (by decide) (by decide), cwd_eq h]
theorem Orc_eq (h : MA μ ν) : Orc ν = Orc μ := by
  funext tl w t
  have eS : stF ν tl = stF μ tl := by funext p; unfold stF; exact stN_eq h _
  have eT : txF ν tl = txF μ tl := by funext m; unfold txF; rw [h.k 87 (by decide) (by decide)]; exact txN_eq h _ _
  have i0 : isShf ν tl = isShf μ tl := by funext F f e n; unfold isShf; rw [eS, eT]
  have i1 : isHds ν tl = isHds μ tl := by funext F f e n; unfold isHds; rw [h.k 76 (by decide) (by decide), cwd_eq h]
  have i2 : isTls ν tl = isTls μ tl := by funext F f e n; unfold isTls; rw [h.k 76 (by decide) (by decide), h.k 77 (by decide) (by decide), cwd_eq h]
  have i3 : isHid ν tl = isHid μ tl := by funext F f e n; unfold isHid; rw [eS, eT, h.k 77 (by decide) (by decide), cwd_eq h]
  unfold Orc
  rw [cwd_eq h, fit_eq h, tgF_eq h, isSg_eq h, i0, i1, i2, i3, h.k 77 (by decide) (by decide), h.2 21 (by decide) (by decide)]
  simp only [cntN_eq h]
theorem wh_eq (h : MA μ ν) : wh ν = wh μ := by
  funext tl w t
  unfold wh
  rw [Orc_eq h, h.k 87 (by decide) (by decide), cwd_eq h, isMn_eq h]
theorem isTl_eq (h : MA μ ν) : isTl ν = isTl μ := by
  funext c t tl
  unfold isTl
  rw [h.k 85 (by decide) (by decide), h.k 86 (by decide) (by decide), h.2 23 (by decide) (by decide)]
theorem pos_eq (h : MA μ ν) : pos ν = pos μ := by
  funext c w t
  unfold pos
  rw [isTl_eq h, wh_eq h, h.k 77 (by decide) (by decide), h.k 78 (by decide) (by decide), h.k 89 (by decide) (by decide), h.2 20 (by decide) (by decide)]
theorem Kn_eq (h : MA μ ν) {t : Int} {m : xMem} : Kn ν t m ↔ Kn μ t m := by
  unfold Kn
  rw [isSg_eq h, isMn_eq h, h.2 20 (by decide) (by decide)]
theorem kP_eq (h : MA μ ν) : kP ν = kP μ := by
  funext t km
  unfold kP
  rw [h.k 81 (by decide) (by decide), h.2 21 (by decide) (by decide)]
theorem kS_eq (h : MA μ ν) : kS ν = kS μ := by
  funext t km
  unfold kS
  rw [h.k 84 (by decide) (by decide), h.2 22 (by decide) (by decide)]
theorem gK.kept {N : Int} {S : List Nat} {T : List (Nat × Int)} (h : gK N μ) (hA : MA μ ν) (hf : FrX S T μ ν) (hd : dj [90, 91, 108] [(74, 5), (74, 26), (74, 27), (74, 56)] S T = true) : gK N ν := by
  have e90 : ν 90 = μ 90 := hf.a hd (by decide)
  have e91 : ν 91 = μ 91 := hf.a hd (by decide)
  have e108 : ν 108 = μ 108 := hf.a hd (by decide)
  have f5 : ν 74 5 = μ 74 5 := hf.b hd (by decide)
  have f26 : ν 74 26 = μ 74 26 := hf.b hd (by decide)
  have f27 : ν 74 27 = μ 74 27 := hf.b hd (by decide)
  have f56 : ν 74 56 = μ 74 56 := hf.b hd (by decide)
  unfold gK Can at *
  rw [f5, f26, f27, f56, pos_eq hA, Kn_eq hA, e108]
  unfold Kn at *
  rw [e90, e91]
  exact h
theorem gK.le {N M : Int} (h : gK N μ) (hN : N ≤ M) : gK M μ := ⟨⟨h.1.1, by have := h.1.2; omega⟩, h.2⟩
/-- the lists have grown: what was known counts no more -/
theorem gK.grown {N : Int} (h : gK N μ) (e5 : ν 74 5 = μ 74 5 + 1) (e26 : ν 74 26 = μ 74 26) (e27 : ν 74 27 = μ 74 27) (e56 : ν 74 56 = μ 74 56) : gK (N + 1) ν := by
  obtain ⟨h1, h2, h3, h4, h5⟩ := h
  refine ⟨by omega, by omega, by omega, by omega, fun z => by omega⟩
theorem gP.kept {S : List Nat} {T : List (Nat × Int)} (h : gP μ) (hA : MA μ ν) (hf : FrX S T μ ν) (hd : dj [41, 42, 43, 44, 45] [] S T = true) : gP ν := by
  have e41 : ν 41 = μ 41 := hf.a hd (by decide)
  have e42 : ν 42 = μ 42 := hf.a hd (by decide)
  have e43 : ν 43 = μ 43 := hf.a hd (by decide)
  have e44 : ν 44 = μ 44 := hf.a hd (by decide)
  have e45 : ν 45 = μ 45 := hf.a hd (by decide)
  unfold gP lst at *
  rw [e41, e42, e43, e44, e45, wh_eq hA, kP_eq hA, kS_eq hA, hA.k 77 (by decide) (by decide), hA.k 89 (by decide) (by decide), hA.k 85 (by decide) (by decide), hA.2 20 (by decide) (by decide), hA.2 21 (by decide) (by decide), hA.2 22 (by decide) (by decide), hA.2 23 (by decide) (by decide)]
  exact h
theorem gN.kept {N : Int} {S : List Nat} {T : List (Nat × Int)} (h : gN N μ) (hf : FrX S T μ ν) (hd : dj [28] [(27, 6), (37, 0)] S T = true) : gN N ν := by
  have e28 : ν 28 = μ 28 := hf.a hd (by decide)
  have f6 : ν 27 6 = μ 27 6 := hf.b hd (by decide)
  have f0 : ν 37 0 = μ 37 0 := hf.b hd (by decide)
  unfold gN StB at *
  rw [e28, f6, f0]
  exact h
theorem gN.le {N M : Int} (h : gN N μ) (hN : N ≤ M) : gN M μ := ⟨h.1, by have := h.2.1; omega, h.2.2⟩
/-- all that holds between two calls, when N calls have been made -/
def INV (N : Int) (μ : xMem) : Prop := gT μ ∧ gD μ ∧ gO μ ∧ gW μ ∧ gM μ ∧ gS μ ∧ gC μ ∧ gL μ ∧ gF μ ∧ gU μ ∧ gR μ ∧ gG μ ∧ gK N μ ∧ gP μ ∧ gN N μ
end SpecInvM
