/-! tellings, a clue is taken, readings -/
section Tell
variable {G : xG} {l : Launch} {d : Nat} {μ ν α m : xMem} {P : Int → xMem → Prop} {PV' : xMem → Prop} {N : Int}
def tlo (μ : xMem) (c t r : Int) : Prop := (r = -1 ∧ ∀ tl, ¬ isTl μ c t tl) ∨ isTl μ c t r
theorem isTl_u {c t x y : Int} (h1 : isTl μ c t x) (h2 : isTl μ c t y) : x = y := by
  rcases (show x < y ∨ x = y ∨ y < x by omega) with z | z | z
  · exact absurd h2.2.1 (h1.2.2.2 y z h2.1.2 h2.2.2.1)
  · exact z
  · exact absurd h1.2.1 (h2.2.2.2 x z h1.1.2 h1.2.2.1)
theorem tlo_u {c t x y : Int} (h1 : tlo μ c t x) (h2 : tlo μ c t y) : x = y := by
  rcases h1 with ⟨a, b⟩ | a <;> rcases h2 with ⟨c, e⟩ | c
  · omega
  · exact absurd c (b _)
  · exact absurd a (e _)
  · exact isTl_u a c
/-- the class's clues are those of μ -/
def xC (μ m : xMem) : Prop := m 21 = μ 21 ∧ m 22 = μ 22 ∧ m 23 = μ 23 ∧ m 24 = μ 24 ∧ m 25 = μ 25 ∧ m 20 2 = μ 20 2
theorem xC.of {S : List Nat} {T : List (Nat × Int)} (hf : FrX S T μ m) (hd : dj [21, 22, 23, 24, 25] [(20, 2)] S T = true) : xC μ m := ⟨hf.a hd (by decide), hf.a hd (by decide), hf.a hd (by decide), hf.a hd (by decide), hf.a hd (by decide), hf.b hd (by decide)⟩
theorem s_isTold {c : Int} (hC : gC μ) (hx : xC μ m) (hc : iR c) (h : ∀ r, bit r ((0 ≤ c ∧ c < 16) ∧ 0 < μ 89 c) → P r m) : CI G l (d + 1) mX0_isTold [xr G 19, xi c] m P := by
  apply E_X0_isTold
  rw [hx.2.2.2.2.1]
  refine ⟨hc, fun z => h 0 (Or.inr ⟨rfl, by omega⟩), fun z => ⟨fun z2 => h 0 (Or.inr ⟨rfl, by omega⟩), fun z2 => ?_⟩⟩
  obtain ⟨e1, e2⟩ := hC.2.2.2.2.2.1 c z z2
  rw [e1]
  exact ⟨⟨z, z2⟩, by omega, fun z3 => h 0 (Or.inr ⟨rfl, by omega⟩), fun z3 => h 1 (Or.inl ⟨rfl, by omega⟩)⟩
theorem tl_told {c t tl : Int} (hC : gC μ) (h : isTl μ c t tl) : (0 ≤ c ∧ c < 16) ∧ 0 < μ 89 c := by
  obtain ⟨-, -, -, q4, q5, -⟩ := hC.2.2.2.1 tl h.1.1 h.1.2
  rw [h.2.1] at q4 q5
  exact ⟨q4, q5⟩
theorem s_tellingOf {c t : Int} (hC : gC μ) (hx : xC μ m) (hc : iR c) (ht : iR t) (h : ∀ r, tlo μ c t r → P r m) : CI G l (d + 3) mX0_tellingOf [xr G 19, xi c, xi t] m P := by
  obtain ⟨b1, b2, b3, b4, b5, b6, b7⟩ := id hC
  obtain ⟨x21, x22, x23, x24, x25, x20⟩ := id hx
  apply E_X0_tellingOf
  refine s_isTold hC hx hc (fun r g => ⟨fun z => h (-1) (Or.inl ⟨rfl, fun tl q => (bit0 g).mp z (tl_told hC q)⟩), fun z => ?_⟩)
  have hq := (bitne g).mp z
  refine s_latest log20 (by rw [x20, b1]; omega) hc ht (fun i i0 i1 => by rw [x21]; exact (b3 i i0 i1).1) (fun i i0 i1 => by rw [x22]; exact (b3 i i0 i1).2) (fun i j i0 ij j1 => ?_) (fun r hr => h r ?_)
  · rw [x20, b1] at j1
    rw [x21, (b4 i i0 (by omega)).1, (b4 j (by omega) j1).1]
    exact b5 i j i0 ij j1
  · rw [x20, b1, x21, x22] at hr
    rcases hr with ⟨q1, q2⟩ | ⟨q1, q2, q3, q4, q5⟩
    · refine Or.inl ⟨q1, fun tl q => ?_⟩
      obtain ⟨⟨y1, y2⟩, y3, y4, y5⟩ := q
      have k := b4 tl y1 y2
      exact q2 tl y1 y2 (by rw [k.1]; exact y4) (by rw [k.2.2.1]; exact y3)
    · have k := b4 r q1 q2
      refine Or.inr ⟨⟨q1, q2⟩, by rw [← k.2.2.1]; exact q4, by rw [← k.1]; exact q3, fun j j0 j1 j2 => ?_⟩
      have kj := b4 j (by omega) j1
      rw [← kj.2.2.1]
      exact q5 j j0 j1 (by rw [kj.1]; exact j2)
theorem s_mTellingOf {c t : Int} (hC : gC μ) (hA : MA μ m) (hc : iR c) (ht : iR t) (h : ∀ r, tlo μ c t r → P r m) : CI G l (d + 1) mX12_tellingOf [xr G 74, xi c, xi t] m P := by
  obtain ⟨b1, b2, b3, b4, b5, b6, b7⟩ := id hC
  have e23 : m 74 23 = μ 74 23 := hA.2 23 (by decide) (by decide)
  have e85 : m 85 = μ 85 := hA.k 85 (by decide) (by decide)
  have e86 : m 86 = μ 86 := hA.k 86 (by decide) (by decide)
  apply E_X12_tellingOf
  have main : ∀ (n : Nat) (v r : Int), v + n = μ 74 23 → 0 ≤ v → (r = -1 ∧ ∀ k, 0 ≤ k → k < v → μ 86 k ≤ t → μ 85 k ≠ c) ∨ ((0 ≤ r ∧ r < v) ∧ μ 85 r = c ∧ μ 86 r ≤ t ∧ ∀ k, r < k → k < v → μ 86 k ≤ t → μ 85 k ≠ c) → K_X12_tellingOf_5 G l (d + 1) P c t r v m := by
    intro n
    induction n with
    | zero =>
      intro v r hv v0 hi
      apply B_X12_tellingOf_5
      rw [e23]
      refine ⟨by omega, by omega, fun _ => ⟨by rcases hi with q | q <;> omega, h r ?_⟩, fun z => by omega⟩
      rcases hi with ⟨q1, q2⟩ | ⟨q1, q2, q3, q4⟩
      · exact Or.inl ⟨q1, fun tl q => q2 tl q.1.1 (by have := q.1.2; omega) q.2.2.1 q.2.1⟩
      · exact Or.inr ⟨⟨q1.1, by omega⟩, q2, q3, fun k k0 k1 => q4 k k0 (by omega)⟩
    | succ n ih =>
      intro v r hv v0 hi
      obtain ⟨-, d2, -, d4, -⟩ := b4 v v0 (by omega)
      have td : μ 74 4 ≤ 2147483647 ∨ 2147483647 < μ 74 4 := by omega
      have d9 := b3 v v0 (by omega)
      have d1 := (b4 v v0 (by omega)).1
      have no : ¬ (μ 85 v = c ∧ μ 86 v ≤ t) → K_X12_tellingOf_5 G l (d + 1) P c t r (v + 1) m := by
        intro hn
        refine ih (v + 1) r (by omega) (by omega) ?_
        rcases hi with ⟨q1, q2⟩ | ⟨q1, q2, q3, q4⟩
        · refine Or.inl ⟨q1, fun k k0 k1 k2 k3 => ?_⟩
          rcases (show k < v ∨ k = v by omega) with y | y
          · exact q2 k k0 y k2 k3
          · rw [y] at k2 k3; exact hn ⟨k3, k2⟩
        · refine Or.inr ⟨by omega, q2, q3, fun k k0 k1 k2 k3 => ?_⟩
          rcases (show k < v ∨ k = v by omega) with y | y
          · exact q4 k k0 y k2 k3
          · rw [y] at k2 k3; exact hn ⟨k3, k2⟩
      apply B_X12_tellingOf_5
      rw [e23, e85, e86]
      refine ⟨by omega, by omega, fun z => by omega, fun _ => ⟨by omega, by omega, hc, fun z => no (fun q => z q.1), fun z => ⟨by rw [← d1]; exact d9.1, ht, fun z2 => no (fun q => by have := q.2; omega), fun z2 => ih (v + 1) v (by omega) (by omega) (Or.inr ⟨by omega, z, z2, fun k k0 k1 => by omega⟩)⟩⟩⟩
  exact main (μ 74 23).toNat 0 (-1) (by omega) (by omega) (Or.inl ⟨rfl, fun k k0 k1 => by omega⟩)
theorem s_isKnown {w t : Int} (hW : gW μ) (e4 : m 4 2 = μ 4 2) (e5 : m 5 = μ 5) (hd : gD μ) (hw : iR w) (ht : iR t) (h : ∀ r, bit r ((0 ≤ w ∧ w < μ 74 20) ∧ μ 78 w ≤ t) → P r m) : CI G l (d + 2) mX3_isKnown [xr G 3, xi w, xi t] m P := by
  have hb := hW.1.1
  apply E_X3_isKnown
  refine s_hasWord (n := μ 74 20) hw (by omega) (by rw [e4]; exact hW.2.2.1.1) (fun r g => ⟨fun z => h 0 (Or.inr ⟨rfl, fun q => (bit0 g).mp z q.1⟩), fun z => ?_⟩)
  have q := (bitne g).mp z
  have q2 := hW.2.2.2 w q.1 q.2
  have hd1 := hd.1
  have hd2 := hd.2
  rw [e5, q2.1]
  exact ⟨by omega, by omega, ht, fun y => h 0 (Or.inr ⟨rfl, fun y2 => by have := y2.2; omega⟩), fun y => h 1 (Or.inl ⟨rfl, q, y⟩)⟩
theorem s_mIsKnown {w t : Int} (hW : gW μ) (hA : MA μ m) (hd : gD μ) (hw : iR w) (ht : iR t) (h : ∀ r, bit r ((0 ≤ w ∧ w < μ 74 20) ∧ μ 78 w ≤ t) → P r m) : CI G l (d + 3) mX12_isKnown [xr G 74, xi w, xi t] m P := by
  have hb := hW.1.1
  apply E_X12_isKnown
  refine s_isWord (n := μ 74 20) hw (by omega) (hA.2 20 (by decide) (by decide)) (fun r g => ⟨fun z => h 0 (Or.inr ⟨rfl, fun q => (bit0 g).mp z q.1⟩), fun z => ?_⟩)
  have q := (bitne g).mp z
  have q2 := hW.2.2.2 w q.1 q.2
  have hd1 := hd.1
  have hd2 := hd.2
  rw [hA.k 78 (by decide) (by decide)]
  exact ⟨by omega, by omega, ht, fun y => h 0 (Or.inr ⟨rfl, fun y2 => by have := y2.2; omega⟩), fun y => h 1 (Or.inl ⟨rfl, q, y⟩)⟩
theorem s_knownM {t : Int} (hM : gM μ) (e7 : m 7 2 = μ 7 2) (e8 : m 8 = μ 8) (ht : iR t) (h : ∀ r, kP μ t r → P r m) : CI G l (d + 1) mX4_knownOn [xr G 7, xi t] m P := by
  obtain ⟨⟨a1, a2⟩, ⟨b1, b2, b3⟩, c1, c2, c3, c4⟩ := id hM
  refine s_knownOn log7 (by rw [e7, b1]; omega) ht (fun i i0 i1 => by rw [e8]; exact c1 i i0 i1) (fun i j i0 ij j1 => ?_) (fun r r0 r1 hr => h r ⟨by rw [e7, b1] at r1; omega, fun k k0 k1 => ?_⟩)
  · rw [e7, b1] at j1
    rw [e8, (c2 i i0 (by omega)).1, (c2 j (by omega) j1).1]
    exact c3 i j i0 ij j1
  · rw [← (c2 k k0 k1).1, ← e8]
    exact hr k k0 (by rw [e7, b1]; exact k1)
theorem s_knownS {t : Int} (hS : gS μ) (e10 : m 10 2 = μ 10 2) (e11 : m 11 = μ 11) (ht : iR t) (h : ∀ r, kS μ t r → P r m) : CI G l (d + 1) mX4_knownOn [xr G 10, xi t] m P := by
  obtain ⟨⟨a1, a2⟩, b1, c1, c2, c3, c4⟩ := id hS
  refine s_knownOn log10 (by rw [e10, b1]; omega) ht (fun i i0 i1 => by rw [e11]; exact c1 i i0 i1) (fun i j i0 ij j1 => ?_) (fun r r0 r1 hr => h r ⟨by rw [e10, b1] at r1; omega, fun k k0 k1 => ?_⟩)
  · rw [e10, b1] at j1
    rw [e11, (c2 i i0 (by omega)).1, (c2 j (by omega) j1).1]
    exact c3 i j i0 ij j1
  · rw [← (c2 k k0 k1).1, ← e11]
    exact hr k k0 (by rw [e10, b1]; exact k1)
theorem s_playsOf {w t ks : Int} (hS : gS μ) (e18 : m 18 = μ 18) (hw : 0 ≤ w ∧ w < 120) (hk : kS μ t ks) (h : ∀ r (q : Nat), q < 1024 → r = (q : Int) → (∀ pl : Nat, pl < 10 → (q.testBit pl = true ↔ isSg μ t w pl)) → P r m) : CI G l (d + 1) mX3_playsOf [xr G 3, xi w, xi ks] m P := by
  obtain ⟨⟨a1, a2⟩, b1, c1, c2, c3, c4⟩ := id hS
  have hkb := hk.1
  apply E_X3_playsOf
  have main : ∀ (n : Nat) (v : Int) (q : Nat), v + n = 10 → 0 ≤ v → q < 1024 → (∀ pl : Nat, q.testBit pl = true ↔ ((pl : Int) < v ∧ isSg μ t w pl)) → K_X3_playsOf_5 G l (d + 1) P w ks (q : Int) v m := by
    intro n
    induction n with
    | zero =>
      intro v q hv v0 hq hi
      apply B_X3_playsOf_5
      exact ⟨by omega, fun _ => ⟨by omega, h _ q hq rfl (fun pl hp => (hi pl).trans ⟨fun z => z.2, fun z => ⟨by omega, z⟩⟩)⟩, fun z => by omega⟩
    | succ n ih =>
      intro v q hv v0 hq hi
      have sp := c4 w v hw.1 hw.2 v0 (by omega)
      obtain ⟨pv, hpv⟩ : ∃ pv : Nat, v = (pv : Int) := ⟨v.toNat, by omega⟩
      have no : ¬ isSg μ t w v → K_X3_playsOf_5 G l (d + 1) P w ks (q : Int) (v + 1) m := by
        intro hn
        refine ih (v + 1) q (by omega) (by omega) hq (fun pl => (hi pl).trans ⟨fun z => ⟨by omega, z.2⟩, fun z => ⟨?_, z.2⟩⟩)
        rcases (show (pl : Int) < v ∨ (pl : Int) = v by omega) with y | y
        · exact y
        · rw [y] at z; exact absurd z.2 hn
      have uq : ∀ k, 0 ≤ k → k < μ 74 22 → μ 82 k = w → μ 83 k = v → k = μ 18 (w * 10 + v) := by
        intro k k0 k1 k2 k3
        rcases sp with ⟨q1, q2⟩ | ⟨q1, q2, q3, q4⟩
        · exact absurd ⟨k2, k3⟩ (q2 k k0 k1)
        · rcases (show k < μ 18 (w * 10 + v) ∨ k = μ 18 (w * 10 + v) ∨ μ 18 (w * 10 + v) < k by omega) with y | y | y
          · exact absurd (by rw [k3, q4]) ((a2 _ q1 q2).2.2.2 k k0 y (by rw [k2, q3]))
          · exact y
          · exact absurd (by rw [k3, q4]) ((a2 k k0 k1).2.2.2 _ q1 y (by rw [k2, q3]))
      apply B_X3_playsOf_5
      rw [e18]
      refine ⟨by omega, fun z => by omega, fun _ => ⟨by omega, by rcases sp with y | y <;> omega, fun z => no ?_, fun z => ⟨by omega, fun z2 => no ?_, fun z2 => ?_⟩⟩⟩
      · rw [isSg_kS hk]
        rintro ⟨k, k0, k1, k2, k3⟩
        have := uq k k0 (by omega) k2 k3
        omega
      · rw [isSg_kS hk]
        rintro ⟨k, k0, k1, k2, k3⟩
        have := uq k k0 (by omega) k2 k3
        omega
      · have yes : isSg μ t w v := by
          rcases sp with y | y
          · omega
          · exact (isSg_kS hk w v).mpr ⟨_, y.1, z2, y.2.2.1, y.2.2.2⟩
        obtain ⟨q', n1, n2, n3⟩ := or_bit (pl := pv) hq (by omega)
        rw [hpv, n2]
        rw [hpv] at yes
        have := ih (v + 1) q' (by omega) (by omega) n1 (fun pl => ?_)
        · rw [hpv] at this; exact this
        · rw [n3, Bool.or_eq_true, decide_eq_true_eq, hi pl]
          constructor
          · rintro (⟨z3, z4⟩ | z3)
            · exact ⟨by omega, z4⟩
            · exact ⟨by omega, by rw [← z3]; exact yes⟩
          · rintro ⟨z3, z4⟩
            rcases (show (pl : Int) < v ∨ (pl : Int) = v by omega) with y | y
            · exact Or.inl ⟨y, z4⟩
            · exact Or.inr (by omega)
  exact main 10 0 0 (by omega) (by omega) (by decide) (fun pl => ⟨fun z => by simp at z, fun z => by omega⟩)
/-- a clue is taken onto the sheet -/
theorem s_xTake {tl t : Int} (hW : gW μ) (hM : gM μ) (hS : gS μ) (hC : gC μ) {S : List Nat} {T : List (Nat × Int)} (hf : FrX S T μ m) (hd : dj [5, 8, 11, 13, 14, 18, 21, 22, 23, 24, 25] [(4, 2), (7, 2), (10, 2), (20, 2), (37, 0)] S T = true) (h370 : μ 37 0 = 0) (htl : 0 ≤ tl ∧ tl < μ 74 23) (ht : iR t)
    (h : ∀ m', FrX [34, 35, 36, 37] [(33, 5), (33, 6)] m m' → m' 37 0 = m 37 0 → shW μ tl t m' → PV' m') : CV G l (d + 4) mX8_takeClue [xr G 26, xr G 19, xi tl, xi t] m PV' := by
  have hw := hW.1
  have hb := hw.1
  have hr := hW.2.2.1
  obtain ⟨b1, b2, b3, b4, b5, b6, b7⟩ := id hC
  obtain ⟨-, -, -, -, -, k6, k7, k8⟩ := b4 tl htl.1 htl.2
  have kn := k7.1
  have e13 : m 13 = μ 13 := hf.a hd (by decide)
  have e14 : m 14 = μ 14 := hf.a hd (by decide)
  have e18 : m 18 = μ 18 := hf.a hd (by decide)
  have e23 : m 23 = μ 23 := hf.a hd (by decide)
  have e24 : m 24 = μ 24 := hf.a hd (by decide)
  have z370 : m 37 0 = 0 := by rw [hf.b (k := 37) (i := 0) hd (by decide)]; exact h370
  apply E_X8_takeClue
  apply E_X9_takeClue
  refine s_knownS hS (hf.b hd (by decide)) (hf.a hd (by decide)) ht (fun ks hks => s_knownM hM (hf.b hd (by decide)) (hf.a hd (by decide)) ht (fun km hkm => ⟨by omega, ?_⟩))
  rw [e24, k6]
  have f0 : FrX [] [(33, 5), (33, 6)] m (st2 (st2 m 33 6 km) 33 5 (μ 87 tl)) := ((FrX.st (k := 33) (i := 6)).tr (FrX.st (k := 33) (i := 5))).sub (by decide) (by decide)
  have stb : ∀ p : Nat, (p : Int) ≤ μ 87 tl → 0 ≤ stN μ tl p ∧ stN μ tl p ≤ 10 * p := fun p hp => by
    have := ct_mono hw k7 p 0 (by omega)
    rw [Nat.zero_add] at this
    have e0 : stN μ tl 0 = 0 := rfl
    omega
  have mono : ∀ a n : Nat, ((a + n : Nat) : Int) ≤ μ 87 tl → stN μ tl a ≤ stN μ tl (a + n) := fun a n h => by have := ct_mono hw k7 n a h; omega
  have main : ∀ (j : Nat) (p : Nat) (x : xMem), (p : Int) + j = μ 87 tl → FrX [34, 35, 36, 37] [(33, 5), (33, 6)] m x → x 37 0 = m 37 0 → x 33 5 = μ 87 tl → x 33 6 = km → (∀ q : Int, 0 ≤ q → q < p → x 34 q = cwd μ tl q ∧ ∃ z : Nat, z < 1024 ∧ x 35 q = (z : Int) ∧ ∀ pl : Nat, pl < 10 → (z.testBit pl = true ↔ isSg μ t (cwd μ tl q) pl)) → (∀ q : Nat, q ≤ p → x 37 q = stN μ tl q) → (∀ (q : Nat) (k : Int), q < p → 0 ≤ k → k < μ 77 (cwd μ tl q) → x 36 (stN μ tl q + k) = μ 76 (10 * cwd μ tl q + k)) → K_X9_takeClue_41 G l (d + 3) (fun m2 => PV' m2) tl ks (p : Int) x := by
    intro j
    induction j with
    | zero =>
      intro p x hp fx x370 x5 x6 hA hB hC'
      apply B_X9_takeClue_41
      rw [x5]
      refine ⟨by omega, by omega, fun _ => h x fx x370 ⟨x5, kn, fun q q0 q1 => ?_, fun q hq => hB q (by omega), fun q k hq k0 k1 => hC' q k (by omega) k0 k1, by rw [x6]; exact hkm.1, fun k k0 k1 => by rw [x6]; exact hkm.2 k k0 k1⟩, fun z => by omega⟩
      obtain ⟨y1, y2⟩ := hA q q0 (by omega)
      exact ⟨y1, (k7.2 q q0 q1).1, (k7.2 q q0 q1).2, y2⟩
    | succ j ih =>
      intro p x hp fx x370 x5 x6 hA hB hC'
      have cw := k7.2 p (by omega) (by omega)
      have lw := (hw.2 _ cw.1 cw.2).1
      obtain ⟨r1, r2⟩ := hr.2 _ cw.1 cw.2
      have x23 : x 23 (tl * 8 + p) = cwd μ tl p := by rw [fx.k 23 (by decide), e23]; exact k8 p (by omega) (by omega)
      have x14 : x 14 (cwd μ tl p) = μ 77 (cwd μ tl p) := by rw [fx.k 14 (by decide), e14]; exact r1
      have xp : x 37 (p : Int) = stN μ tl p := hB p (Nat.le_refl _)
      have sb := stb p (by omega)
      have sn : stN μ tl (p + 1) = stN μ tl p + μ 77 (cwd μ tl p) := rfl
      apply B_X9_takeClue_41
      rw [x5, x23, x14]
      refine ⟨by omega, by omega, fun z => by omega, fun _ => ⟨by omega, by omega, by omega, s_playsOf (μ := μ) (t := t) hS (by rw [st_f _ _ _ _ _ (by decide), fx.k 18 (by decide)]; exact e18) (by omega) hks (fun r q hq hrq hbits => ?_)⟩⟩
      have e37 : st2 x 34 (p : Int) (cwd μ tl p) 37 (p : Int) = stN μ tl p := by rw [st_n _ _ _ _ _ _ (by decide)]; exact xp
      rw [e37]
      refine ⟨by omega, by omega, by omega, by omega, by omega, by omega, by omega, ?_⟩
      have fy := (FrX.sa (μ := x) (k := 34) (i := (p : Int)) (v := cwd μ tl p)).tr ((FrX.sa (k := 35) (i := (p : Int)) (v := r)).tr ((FrX.cp (ks := 13) (kd := 36) (sp := cwd μ tl p * 10) (dp := stN μ tl p) (n := μ 77 (cwd μ tl p))).tr (FrX.sa (k := 37) (i := (p : Int) + 1) (v := stN μ tl p + μ 77 (cwd μ tl p)))))
      generalize hy : st2 (cpy (st2 (st2 x 34 (p : Int) (cwd μ tl p)) 35 (p : Int) r) 13 (cwd μ tl p * 10) 36 (stN μ tl p) (μ 77 (cwd μ tl p))) 37 ((p : Int) + 1) (stN μ tl p + μ 77 (cwd μ tl p)) = y at *
      have y34 : ∀ i, y 34 i = if i = (p : Int) then cwd μ tl p else x 34 i := fun i => by rw [← hy]; simp [st2, cpy]
      have y35 : ∀ i, y 35 i = if i = (p : Int) then r else x 35 i := fun i => by rw [← hy]; simp [st2, cpy]
      have y37 : ∀ i, y 37 i = if i = (p : Int) + 1 then stN μ tl p + μ 77 (cwd μ tl p) else x 37 i := fun i => by rw [← hy]; simp [st2, cpy]
      have y36 : ∀ i, y 36 i = if stN μ tl p ≤ i ∧ i < stN μ tl p + μ 77 (cwd μ tl p) then x 13 (cwd μ tl p * 10 + (i - stN μ tl p)) else x 36 i := fun i => by rw [← hy]; simp [st2, cpy]
      have := ih (p + 1) y (by omega) ((fx.tr fy).sub (by decide) (by decide)) (by rw [y37, if_neg (by omega)]; exact x370) (by rw [fy.f 33 5 (by decide)]; exact x5) (by rw [fy.f 33 6 (by decide)]; exact x6) (fun q q0 q1 => ?_) (fun q hq => ?_) (fun q k hq k0 k1 => ?_)
      · rw [show ((p + 1 : Nat) : Int) = (p : Int) + 1 by omega] at this
        exact this
      · rw [y34, y35]
        rcases (show q < p ∨ q = p by omega) with e | e
        · rw [if_neg (by omega), if_neg (by omega)]; exact hA q q0 e
        · rw [if_pos e, if_pos e, e]
          exact ⟨rfl, _, hq, hrq, hbits⟩
      · rw [y37]
        rcases (show q ≤ p ∨ q = p + 1 by omega) with e | e
        · rw [if_neg (by omega)]; exact hB q e
        · rw [if_pos (by omega), e]; rfl
      · rw [y36]
        rcases (show q < p ∨ q = p by omega) with e | e
        · have := mono (q + 1) (p - (q + 1)) (by omega)
          rw [show q + 1 + (p - (q + 1)) = p by omega] at this
          have e2 : stN μ tl (q + 1) = stN μ tl q + μ 77 (cwd μ tl q) := rfl
          rw [if_neg (by omega)]; exact hC' q k e k0 k1
        · subst e
          rw [if_pos (by omega), fx.k 13 (by decide), e13, ← r2 k k0 k1]
          congr 1
          omega
  have := main (μ 87 tl).toNat 0 _ (by omega) (f0.sub (by decide) (by decide)) (by simp [st2]) (by simp [st2]) (by simp [st2]) (fun q q0 q1 => by omega) (fun q hq => ?_) (fun q k hq k0 k1 => by omega)
  · exact this
  · have : q = 0 := by omega
    subst this
    simp [st2]
    rw [z370]
    rfl
theorem gN.same {N : Int} (h : gN N μ) (e28 : ν 28 = μ 28) (e6 : ν 27 6 = μ 27 6) (e0 : ν 37 0 = μ 37 0) : gN N ν := by
  unfold gN StB at *
  rw [e28, e6, e0]
  exact h
theorem FrB.x (h : FrB μ ν) : FrX [27, 28, 29, 30, 31, 32, 38, 39] [(33, 8), (33, 10)] μ ν := fun k i a b => by
  simp at a b
  exact h k i (by omega) (by omega) (by omega) (by omega)
theorem FmR.x (h : FmR μ ν) : FrX [92, 93, 94, 95, 96, 97, 98, 99, 100, 101, 102, 103, 104, 105, 106] [(74, 41), (74, 42), (74, 43), (74, 44), (74, 45), (74, 46), (74, 47), (74, 48), (74, 49)] μ ν := fun k i a b => by
  refine h k i ?_ ?_
  · by_cases c1 : k < 92
    · exact Or.inl c1
    · by_cases c2 : 107 ≤ k
      · exact Or.inr c2
      · exfalso
        clear b
        apply a
        simp
        omega
  · by_cases c1 : k = 74
    · subst c1
      by_cases c2 : i < 41
      · exact Or.inr (Or.inl c2)
      · by_cases c3 : 49 < i
        · exact Or.inr (Or.inr c3)
        · exfalso
          clear a
          apply b
          simp
          omega
    · exact Or.inl c1
theorem FmK.x (h : FmK μ ν) : FrX [90, 91] [(74, 26), (74, 27), (74, 56)] μ ν := fun k i a b => by
  simp at a b
  exact h k i a.1 a.2 (by omega)
/-- the model knows a day -/
theorem s_knowI {t : Int} (hN9 : 0 ≤ N ∧ N ≤ 600) (ht : iR t) (hW : gW μ) (hM : gM μ) (hS : gS μ) (hD : gD μ) (hK : gK N μ) (h : ∀ ν, FrX [90, 91] [(74, 26), (74, 27), (74, 56)] μ ν → gK N ν → Kn ν t ν → ν 74 26 = t → ν 74 27 = ν 74 5 → PV' ν) : CV G l (d + 1) mX12_know [xr G 74, xi t] μ PV' := by
  obtain ⟨k1, k2, k3, k4, k5⟩ := id hK
  have hd1 := hD.1
  have hd2 := hD.2
  refine s_know (α := μ) ht MA.rf hW.1 hM.1 hS.1 (fun k k0 k1 => by have := hM.2.2.2.1 k k0 k1; omega) ⟨k3, by omega, by omega⟩ (fun z => (k5 z).1) (fun ν f1 f2 f3 f4 f5 => ?_)
  have hx := f1.x
  have hA : MA μ ν := MA.of hx (by decide)
  have e5 : ν 74 5 = μ 74 5 := hx.f 74 5 (by decide)
  have e108 : ν 108 = μ 108 := hx.k 108 (by decide)
  have kn : Kn ν t ν := (Kn_eq hA).mpr f2
  refine h ν hx ⟨by omega, by omega, by omega, by omega, fun _ => ⟨by rw [f3]; exact kn, fun z => ?_⟩⟩ kn f3 f4
  rcases f5 with q | ⟨q1, q2, q3⟩
  · omega
  · have c := (k5 q2).2 (by omega)
    rw [f3]
    rw [q1] at c
    unfold Can at *
    rw [pos_eq hA, e108]
    exact c
theorem op_readings (hI : INV N μ) (hN9 : 0 ≤ N ∧ N ≤ 600) {c w t : Int} (hc : iR c) (hwr : iR w) (ht : iR t) : SIM G l (d + 60) mX11_readings mX12_readings [xi c, xi w, xi t] N μ := by
  obtain ⟨hT, hD, hO, hW, hM, hS, hC, hL, hF, hU, hR, hG, hK, hP, hN⟩ := id hI
  have hw := hW.1
  have hb := hw.1
  -- the model, asked
  have asked : ∀ (m : xMem) (Q : Int → xMem → Prop), MA μ m → (∀ ν, FrX [] [(74, 0), (74, 52)] m ν → (¬ ∃ tl, isTl μ c t tl ∧ ((0 ≤ w ∧ w < μ 74 20) ∧ μ 78 w ≤ t) ∧ μ 77 w = μ 89 c) → Q 0 ν) → (∀ tl, isTl μ c t tl → (0 ≤ w ∧ w < μ 74 20) → μ 78 w ≤ t → μ 77 w = μ 89 c → Q 1 (st2 (st2 m 74 0 0) 74 52 tl)) → CI G l (d + 59) mX12_isAsked [xr G 74, xi c, xi w, xi t] (st2 m 74 0 0) Q := by
    intro m Q hA h0 h1
    have f0 : FrX [] [(74, 0), (74, 52)] m (st2 m 74 0 0) := FrX.st.sub (by decide) (by decide)
    have hA0 := hA.tr (MA.of f0 (by decide))
    apply E_X12_isAsked
    refine s_isIn hc (by decide) (by decide) (fun r g => ⟨fun z => s_mTellingOf hC hA0 hc ht (fun r5 h5 => ?_), fun z => h0 _ f0 (fun ⟨tl, q, _⟩ => (bit0 g).mp z (by have := (tl_told hC q).1; omega))⟩)
    have f1 : FrX [] [(74, 0), (74, 52)] m (st2 (st2 m 74 0 0) 74 52 r5) := (FrX.st.tr FrX.st).sub (by decide) (by decide)
    have hA1 := hA.tr (MA.of f1 (by decide))
    have r5b : iR r5 := by
      have := hC.2.1
      rcases h5 with q | q
      · have := q.1; omega
      · have := q.1; omega
    refine ⟨r5b, fun z2 => h0 _ f1 (fun ⟨tl, q, _⟩ => ?_), fun z2 => s_mIsKnown hW hA1 hD hwr ht (fun r6 h6 => ⟨fun z3 => h0 _ f1 (fun ⟨tl, q, q2, _⟩ => (bit0 h6).mp z3 q2), fun z3 => ?_⟩)⟩
    · have := tlo_u h5 (Or.inr q)
      have := q.1
      omega
    · have q6 := (bitne h6).mp z3
      have q5 : isTl μ c t r5 := by
        rcases h5 with q | q
        · omega
        · exact q
      have lc := tl_told hC q5
      have lw := (hw.2 w q6.1.1 q6.1.2).1
      have cl := (hC.2.2.2.2.2.1 c lc.1.1 lc.1.2).2
      rw [hA1.k 77 (by decide) (by decide), hA1.k 89 (by decide) (by decide)]
      refine ⟨by omega, by omega, by omega, by omega, fun z4 => h0 _ f1 (fun ⟨tl, q, q2, q3⟩ => z4 q3), fun z4 => h1 r5 q5 q6.1 q6.2 z4⟩
  have fail : (¬ ∃ tl, isTl μ c t tl ∧ ((0 ≤ w ∧ w < μ 74 20) ∧ μ 78 w ≤ t) ∧ μ 77 w = μ 89 c) → CI G l (d + 60) mX12_readings [xr G 74, xi c, xi w, xi t] μ (fun r' m' => -1 = r' ∧ INV (N + 1) m') := by
    intro hz
    apply E_X12_readings
    refine asked μ _ MA.rf (fun ν hf _ => ⟨fun z => absurd rfl z, fun _ => ⟨rfl, hI.sc hf (by decide) (by decide)⟩⟩) (fun tl q1 q2 q3 q4 => absurd ⟨tl, q1, ⟨q2, q3⟩, q4⟩ hz)
  unfold SIM
  apply E_X11_readings
  apply E_X11_takeClue
  refine s_tellingOf hC ⟨rfl, rfl, rfl, rfl, rfl, rfl⟩ hc ht (fun tl htl => ⟨fun z => ⟨fun y => absurd rfl y, fun _ => fail (fun ⟨tl', q, _⟩ => ?_)⟩, fun z => s_isKnown hW rfl rfl hD hwr ht (fun r5 h5 => ⟨fun z2 => ⟨fun y => absurd rfl y, fun _ => fail (fun ⟨tl', q, q2, _⟩ => (bit0 h5).mp z2 q2)⟩, fun z2 => ?_⟩)⟩)
  · have := tlo_u htl (Or.inr q)
    have := q.1
    omega
  · have q5 : isTl μ c t tl := by
      rcases htl with q | q
      · exact absurd q.1 z
      · exact q
    have q6 := (bitne h5).mp z2
    have lc := tl_told hC q5
    have lw := (hw.2 w q6.1.1 q6.1.2).1
    obtain ⟨cl1, cl2⟩ := hC.2.2.2.2.2.1 c lc.1.1 lc.1.2
    have rw1 := (hW.2.2.1.2 w q6.1.1 q6.1.2).1
    rw [rw1, cl1]
    refine ⟨by omega, by omega, by omega, by omega, fun z4 => ?_, fun z4 => ⟨fun y => absurd rfl y, fun _ => fail (fun ⟨tl', _, _, q⟩ => z4 q)⟩⟩
    refine s_xTake (S := []) (T := []) hW hM hS hC FrX.rf (by decide) hN.2.2 q5.1 ht (fun m1 f1 e0 sh => ⟨fun _ => ?_, fun y => absurd y (by decide)⟩)
    have hA1 : MA μ m1 := MA.of f1 (by decide)
    have rW : rlW μ m1 := by
      have := hW.2.2.1
      unfold rlW at *
      rw [f1.f 4 2 (by decide), f1.k 14 (by decide), f1.k 13 (by decide)]
      exact this
    have rM : rlM μ m1 := by
      have := hM.2.1
      unfold rlM at *
      rw [f1.f 7 2 (by decide), f1.k 15 (by decide), f1.k 16 (by decide), f1.k 17 (by decide)]
      exact this
    have st1 : StB m1 := by
      have := hN.1
      unfold StB at *
      rw [f1.f 27 6 (by decide), f1.k 28 (by decide)]
      exact this
    have e276 : m1 27 6 = μ 27 6 := f1.f 27 6 (by decide)
    have nb := hN.2.1
    refine s_readBy (α := μ) (tl := tl) (t := t) hw hW.2.1 rW hM.1 rM sh q6.1 (by omega) (Or.inl rfl) st1 (by omega) (fun m2 fB st2' e6 e7 e8 hd2 => ?_)
    have f2 := fB.x
    have er : m2 29 7920 = cap 1000 (wh μ tl w t).1 := by rw [hd2.1, e7]; rfl
    rw [er]
    have fX := f1.tr f2
    have hA2 : MA μ m2 := MA.of fX (by decide)
    apply E_X12_readings
    refine asked m2 _ hA2 (fun ν hf hz => absurd ⟨tl, q5, q6, z4⟩ hz) (fun tl' t1 t2 t3 t4 => ⟨fun _ => ?_, fun y => absurd y (by decide)⟩)
    have et : tl' = tl := isTl_u t1 q5
    subst et
    have f3 : FrX [] [(74, 0), (74, 52)] m2 (st2 (st2 m2 74 0 0) 74 52 tl') := (FrX.st.tr FrX.st).sub (by decide) (by decide)
    have e52 : (st2 (st2 m2 74 0 0) 74 52 tl') 74 52 = tl' := st_s _ _ _ _
    generalize st2 (st2 m2 74 0 0) 74 52 tl' = m3 at *
    have g3 := fX.tr f3
    have hA3 : MA μ m3 := MA.of g3 (by decide)
    refine s_knowI hN9 ht (hW.kept g3 (by decide)) (hM.kept g3 (by decide)) (hS.kept g3 (by decide)) (hD.kept g3 (by decide)) (hK.kept hA3 g3 (by decide)) (fun m4 f4 k4 kn e26 e27 => ?_)
    rw [f4.f 74 52 (by decide), e52]
    have g4 := g3.tr f4
    have hA4 : MA μ m4 := MA.of g4 (by decide)
    have cl4 := (hC.2.2.2.1 tl' q5.1.1 q5.1.2).2.2.2.2.2.2.1
    refine s_read (α := μ) hw hM.1 hA4 ((Kn_eq hA4).mp kn) (by have := q5.1; have := hC.2.1; omega) cl4 q6.1 (fun m5 f5 c5 => ⟨rfl, ?_⟩)
    have f5x := f5.x
    have g5 := g4.tr f5x
    have hA5 : MA m4 m5 := MA.of f5x (by decide)
    have hA05 : MA μ m5 := hA4.tr hA5
    refine ⟨hT.kept g5 (by decide), hD.kept g5 (by decide), hO.kept g5 (by decide), hW.kept g5 (by decide), hM.kept g5 (by decide), hS.kept g5 (by decide), hC.kept g5 (by decide), hL.kept g5 (by decide), hF.kept g5 (by decide), hU.kept g5 (by decide), hR.kept g5 (by decide), hG.kept g5 (by decide), (k4.kept hA5 f5x (by decide)).le (by omega), hP.kept hA05 g5 (by decide), ?_⟩
    have tail := f3.tr (f4.tr f5x)
    refine ⟨?_, ?_, ?_⟩
    · unfold StB at *
      rw [tail.f 27 6 (by decide), tail.k 28 (by decide)]
      exact st2'
    · rw [tail.f 27 6 (by decide), e6, e276]; omega
    · rw [tail.f 37 0 (by decide), f2.f 37 0 (by decide), e0]; exact hN.2.2
end Tell
