/-! calls that touch little: feed, end, next, count, filled, enter, cell -/
section Ops1
variable {G : xG} {l : Launch} {d : Nat} {μ ν α : xMem} {P : Int → xMem → Prop} {PV' : xMem → Prop} {N : Int}
/-- the class answers a call, then the model does: the same, and all holds on -/
def SIM (G : xG) (l : Launch) (d : Nat) (mx mm : xMT) (args : List Value) (N : Int) (μ : xMem) : Prop := CI G l d mx (xr G 0 :: args) μ (fun r m => CI G l d mm (xr G 74 :: args) m (fun r' m' => r = r' ∧ INV (N + 1) m'))
def iA : List Nat := [1, 75, 2, 107, 5, 13, 14, 76, 77, 78, 8, 15, 16, 17, 79, 80, 81, 11, 18, 82, 83, 84, 21, 22, 23, 24, 25, 85, 86, 87, 88, 89, 55, 56, 57, 114, 115, 116, 63, 122, 65, 66, 124, 125, 69, 71, 72, 126, 127, 128, 47, 48, 49, 50, 51, 52, 53, 109, 110, 111, 112, 113, 117, 118, 90, 91, 108, 41, 42, 43, 44, 45]
def iB : List (Nat × Int) := [(0, 1), (74, 2), (0, 2), (74, 4), (0, 4), (74, 54), (4, 2), (74, 20), (7, 2), (74, 21), (10, 2), (74, 22), (19, 4), (20, 2), (74, 23), (54, 2), (74, 67), (74, 72), (64, 5), (74, 76), (68, 2), (74, 81), (46, 9), (46, 10), (74, 5), (74, 26), (74, 27), (74, 56)]
theorem dj_sub {A A' : List Nat} {B B' : List (Nat × Int)} {S : List Nat} {T : List (Nat × Int)} (h : dj A' B' S T = true) (h1 : A.all (fun k => A'.contains k) = true) (h2 : B.all (fun q => B'.contains q) = true) : dj A B S T = true := by
  unfold dj at *
  rw [Bool.and_eq_true] at *
  refine ⟨List.all_eq_true.mpr (fun k hk => List.all_eq_true.mp h.1 k ?_), List.all_eq_true.mpr (fun q hq => List.all_eq_true.mp h.2 q ?_)⟩
  · have := List.all_eq_true.mp h1 k hk
    simpa using this
  · have := List.all_eq_true.mp h2 q hq
    simpa using this
theorem INV.fr {S : List Nat} {T : List (Nat × Int)} (hI : INV N μ) (hf : FrX S T μ ν) (hd : dj iA iB S T = true) (hN' : gN (N + 1) ν) : INV (N + 1) ν := by
  obtain ⟨hT, hD, hO, hW, hM, hS, hC, hL, hF, hU, hR, hG, hK, hP, hN⟩ := hI
  have hA : MA μ ν := MA.of hf (dj_sub hd (by decide) (by decide))
  exact ⟨hT.kept hf (dj_sub hd (by decide) (by decide)), hD.kept hf (dj_sub hd (by decide) (by decide)), hO.kept hf (dj_sub hd (by decide) (by decide)), hW.kept hf (dj_sub hd (by decide) (by decide)), hM.kept hf (dj_sub hd (by decide) (by decide)), hS.kept hf (dj_sub hd (by decide) (by decide)), hC.kept hf (dj_sub hd (by decide) (by decide)), hL.kept hf (dj_sub hd (by decide) (by decide)), hF.kept hf (dj_sub hd (by decide) (by decide)), hU.kept hf (dj_sub hd (by decide) (by decide)), hR.kept hf (dj_sub hd (by decide) (by decide)), hG.kept hf (dj_sub hd (by decide) (by decide)), (hK.kept hA hf (dj_sub hd (by decide) (by decide))).le (by omega), hP.kept hA hf (dj_sub hd (by decide) (by decide)), hN'⟩
theorem INV.sc {S : List Nat} {T : List (Nat × Int)} (hI : INV N μ) (hf : FrX S T μ ν) (hd : dj iA iB S T = true) (hd2 : dj [28] [(27, 6), (37, 0)] S T = true) : INV (N + 1) ν := hI.fr hf hd ((hI.2.2.2.2.2.2.2.2.2.2.2.2.2.2.kept hf hd2).le (by omega))
theorem INV.thr (hI : INV N μ) {v : Int} : INV (N + 1) (st2 μ 74 0 v) := hI.sc FrX.st (by decide) (by decide)
theorem s_isIn {v a b : Int} (hv : iR v) (ha : iR a) (hb : iR b) (h : ∀ r, bit r (a ≤ v ∧ v ≤ b) → P r μ) : CI G l (d + 1) mX12_isIn [xi v, xi a, xi b] μ P := by
  apply E_X12_isIn
  exact ⟨hv, ha, fun z => h 0 (Or.inr ⟨rfl, by omega⟩), fun z => ⟨hb, fun z2 => h 0 (Or.inr ⟨rfl, by omega⟩), fun z2 => h 1 (Or.inl ⟨rfl, by omega⟩)⟩⟩
/-- a byte of a number -/
def bb (v j : Int) : Int := if j = 0 then v % 4294967296 / 16777216 % 256 else if j = 1 then v % 4294967296 / 65536 % 256 else if j = 2 then v % 4294967296 / 256 % 256 else v % 4294967296 % 256
def updb (f : Int → Int) (p v : Int) : Int → Int := fun i => if p ≤ i ∧ i < p + 4 then bb v (i - p) else f i
def updj (f : Int → Int) (p v : Int) : Int → Int := fun i => if p ≤ i ∧ i < p + 4 then j8 (bb v (i - p)) else f i
theorem bb_b (v j : Int) : 0 ≤ bb v j ∧ bb v j ≤ 255 := by
  unfold bb
  split
  · omega
  · split
    · omega
    · split <;> omega
theorem bt24 {v : Int} (hv : iR v) : jand (jushr v 24) 255 = v % 4294967296 / 16777216 % 256 ∧ j8 (j8 (jshr v 24)) = j8 (v % 4294967296 / 16777216 % 256) := by
  have h1 := b_ushr (x := v) (s := 24) (by decide)
  have h2 := b_shr hv (s := 24) (by decide)
  simp only [Nat.reducePow, Int.cast_ofNat_Int] at h1 h2
  refine ⟨by rw [b_255]; exact h1, ?_⟩
  rw [show jshr v 24 = v / 16777216 from h2]
  unfold j8
  omega
theorem bt16 {v : Int} (hv : iR v) : jand (jushr v 16) 255 = v % 4294967296 / 65536 % 256 ∧ j8 (j8 (jshr v 16)) = j8 (v % 4294967296 / 65536 % 256) := by
  have h1 := b_ushr (x := v) (s := 16) (by decide)
  have h2 := b_shr hv (s := 16) (by decide)
  simp only [Nat.reducePow, Int.cast_ofNat_Int] at h1 h2
  refine ⟨by rw [b_255]; exact h1, ?_⟩
  rw [show jshr v 16 = v / 65536 from h2]
  unfold j8
  omega
theorem bt8 {v : Int} (hv : iR v) : jand (jushr v 8) 255 = v % 4294967296 / 256 % 256 ∧ j8 (j8 (jshr v 8)) = j8 (v % 4294967296 / 256 % 256) := by
  have h1 := b_ushr (x := v) (s := 8) (by decide)
  have h2 := b_shr hv (s := 8) (by decide)
  simp only [Nat.reducePow, Int.cast_ofNat_Int] at h1 h2
  refine ⟨by rw [b_255]; exact h1, ?_⟩
  rw [show jshr v 8 = v / 256 from h2]
  unfold j8
  omega
theorem bt0 {v : Int} (hv : iR v) : jand (jushr v 0) 255 = v % 4294967296 % 256 ∧ j8 (j8 (jshr v 0)) = j8 (v % 4294967296 % 256) := by
  have h1 := b_ushr (x := v) (s := 0) (by decide)
  have h2 := b_shr hv (s := 0) (by decide)
  simp only [Nat.reducePow, Int.cast_ofNat_Int] at h1 h2
  refine ⟨by rw [b_255]; rw [show (v % 4294967296) % 256 = v % 4294967296 / 1 % 256 by omega]; exact h1, ?_⟩
  rw [show jshr v 0 = v / 1 from h2]
  unfold j8
  omega
theorem s_putNumber {v : Int} (hv : iR v) (h0 : 0 ≤ μ 0 1) (h1 : μ 0 1 + 4 ≤ 180) (h : ∀ ν, FrX [1] [(0, 1)] μ ν → ν 0 1 = μ 0 1 + 4 → ν 1 = updb (μ 1) (μ 0 1) v → PV' ν) : CV G l (d + 1) mX11_putNumber [xr G 0, xi v] μ PV' := by
  apply E_X11_putNumber
  apply B_X11_putNumber_3
  refine ⟨by decide, fun z => absurd z (by decide), fun _ => ⟨by omega, fun z => by omega, fun _ => ⟨by omega, ?_⟩⟩⟩
  apply B_X11_putNumber_3
  simp only [st_s, st_n _ _ _ _ _ _ (show (0 : Nat) ≠ 1 by decide)]
  refine ⟨by decide, fun z => absurd z (by decide), fun _ => ⟨by omega, fun z => by omega, fun _ => ⟨by omega, ?_⟩⟩⟩
  apply B_X11_putNumber_3
  simp only [st_s, st_n _ _ _ _ _ _ (show (0 : Nat) ≠ 1 by decide)]
  refine ⟨by decide, fun z => absurd z (by decide), fun _ => ⟨by omega, fun z => by omega, fun _ => ⟨by omega, ?_⟩⟩⟩
  apply B_X11_putNumber_3
  simp only [st_s, st_n _ _ _ _ _ _ (show (0 : Nat) ≠ 1 by decide)]
  refine ⟨by decide, fun z => absurd z (by decide), fun _ => ⟨by omega, fun z => by omega, fun _ => ⟨by omega, ?_⟩⟩⟩
  apply B_X11_putNumber_3
  refine ⟨by decide, fun _ => ?_, fun z => absurd z (by decide)⟩
  rw [show (24 : Int) + -8 = 16 from rfl, show (16 : Int) + -8 = 8 from rfl, show (8 : Int) + -8 = 0 from rfl, (bt24 hv).1, (bt16 hv).1, (bt8 hv).1, (bt0 hv).1]
  refine h _ (fun k i a b => ?_) (by rw [st_s]; omega) (funext fun i => ?_)
  · simp at a b
    unfold st2
    grind
  · generalize μ 0 1 = p at *
    unfold st2 updb bb
    grind
theorem s_four {v : Int} (hv : iR v) (h0 : 0 ≤ μ 74 2) (h1 : μ 74 2 + 4 ≤ 180) (h : ∀ ν, FrX [75] [(74, 2)] μ ν → ν 74 2 = μ 74 2 + 4 → ν 75 = updj (μ 75) (μ 74 2) v → PV' ν) : CV G l (d + 1) mX12_four [xr G 74, xi v] μ PV' := by
  apply E_X12_four
  apply B_X12_four_3
  refine ⟨by decide, fun z => absurd z (by decide), fun _ => ⟨by omega, ?_⟩⟩
  apply B_X12_four_3
  simp only [st_s, st_n _ _ _ _ _ _ (show (74 : Nat) ≠ 75 by decide)]
  refine ⟨by decide, fun z => absurd z (by decide), fun _ => ⟨by omega, ?_⟩⟩
  apply B_X12_four_3
  simp only [st_s, st_n _ _ _ _ _ _ (show (74 : Nat) ≠ 75 by decide)]
  refine ⟨by decide, fun z => absurd z (by decide), fun _ => ⟨by omega, ?_⟩⟩
  apply B_X12_four_3
  simp only [st_s, st_n _ _ _ _ _ _ (show (74 : Nat) ≠ 75 by decide)]
  refine ⟨by decide, fun z => absurd z (by decide), fun _ => ⟨by omega, ?_⟩⟩
  apply B_X12_four_3
  refine ⟨by decide, fun _ => ?_, fun z => absurd z (by decide)⟩
  rw [show (24 : Int) + -8 = 16 from rfl, show (16 : Int) + -8 = 8 from rfl, show (8 : Int) + -8 = 0 from rfl, (bt24 hv).2, (bt16 hv).2, (bt8 hv).2, (bt0 hv).2]
  refine h _ (fun k i a b => ?_) (by rw [st_s]; omega) (funext fun i => ?_)
  · simp at a b
    unfold st2
    grind
  · generalize μ 74 2 = p at *
    unfold st2 updj bb
    grind
def updb5 (f : Int → Int) (p a b c e g : Int) : Int → Int := updb (updb (updb (updb (updb f p a) (p + 4) b) (p + 8) c) (p + 12) e) (p + 16) g
def updj5 (f : Int → Int) (p a b c e g : Int) : Int → Int := updj (updj (updj (updj (updj f p a) (p + 4) b) (p + 8) c) (p + 12) e) (p + 16) g
theorem updb_b {f : Int → Int} {p v i : Int} (h : 0 ≤ f i ∧ f i ≤ 255) : 0 ≤ updb f p v i ∧ updb f p v i ≤ 255 := by
  unfold updb
  split
  · exact bb_b _ _
  · exact h
theorem updb_j {f g : Int → Int} {p v i : Int} (h : g i = j8 (f i)) : updj g p v i = j8 (updb f p v i) := by
  unfold updb updj
  split
  · rfl
  · exact h
theorem op_feed (hI : INV N μ) {a b c e g : Int} (h1 : iR a) (h2 : iR b) (h3 : iR c) (h4 : iR e) (h5 : iR g) : SIM G l (d + 60) mX11_feed mX12_feed [xi a, xi b, xi c, xi e, xi g] N μ := by
  obtain ⟨hT, hD, hO, hW, hM, hS, hC, hL, hF, hU, hR, hG, hK, hP, hN⟩ := id hI
  obtain ⟨t1, t2, t3⟩ := id hT
  unfold SIM
  apply E_X11_feed
  refine ⟨by omega, fun z => ?_, fun z => ?_⟩
  · refine s_putNumber h1 (by omega) (by omega) (fun m1 f1 e1 u1 => s_putNumber h2 (by omega) (by omega) (fun m2 f2 e2 u2 => s_putNumber h3 (by omega) (by omega) (fun m3 f3 e3 u3 => s_putNumber h4 (by omega) (by omega) (fun m4 f4 e4 u4 => s_putNumber h5 (by omega) (by omega) (fun m5 f5 e5 u5 => ⟨by omega, ?_⟩)))))
    have fX := f1.tr' (f2.tr' (f3.tr' (f4.tr' f5)))
    have x1 : m5 1 = updb5 (μ 1) (μ 0 1) a b c e g := by
      rw [u5, u4, u3, u2, u1, e4, e3, e2, e1]
      unfold updb5
      rw [show μ 0 1 + 4 + 4 = μ 0 1 + 8 by omega, show μ 0 1 + 8 + 4 = μ 0 1 + 12 by omega, show μ 0 1 + 12 + 4 = μ 0 1 + 16 by omega]
    have q2 : m5 74 2 = μ 0 1 := by rw [fX.f 74 2 (by decide)]; exact t2
    apply E_X12_feed
    rw [q2]
    refine ⟨by omega, fun _ => ?_, fun y => by omega⟩
    have g0 : FrX [] [(74, 0)] m5 (st2 m5 74 0 0) := FrX.st
    have q2' : st2 m5 74 0 0 74 2 = μ 0 1 := by rw [st_o _ _ _ _ _ (by decide)]; exact q2
    refine s_four h1 (by omega) (by omega) (fun n1 k1 w1 y1 => s_four h2 (by omega) (by omega) (fun n2 k2 w2 y2 => s_four h3 (by omega) (by omega) (fun n3 k3 w3 y3 => s_four h4 (by omega) (by omega) (fun n4 k4 w4 y4 => s_four h5 (by omega) (by omega) (fun n5 k5 w5 y5 => ⟨by omega, by omega, ?_⟩)))))
    have kX := g0.tr (k1.tr' (k2.tr' (k3.tr' (k4.tr' k5))))
    have aX := fX.tr kX
    have x2 : n5 75 = updj5 (μ 75) (μ 0 1) a b c e g := by
      rw [y5, y4, y3, y2, y1, w4, w3, w2, w1, q2', st_f _ _ _ _ _ (by decide), fX.k 75 (by decide)]
      unfold updj5
      rw [show μ 0 1 + 4 + 4 = μ 0 1 + 8 by omega, show μ 0 1 + 8 + 4 = μ 0 1 + 12 by omega, show μ 0 1 + 12 + 4 = μ 0 1 + 16 by omega]
    have hA : MA μ n5 := MA.of aX (by decide)
    have x3 : n5 1 = m5 1 := kX.k 1 (by decide)
    have x4 : n5 0 1 = m5 0 1 := kX.f 0 1 (by decide)
    refine ⟨⟨by omega, by omega, fun i i0 i1 => ?_⟩, hD.kept aX (by decide), hO.kept aX (by decide), hW.kept aX (by decide), hM.kept aX (by decide), hS.kept aX (by decide), hC.kept aX (by decide), hL.kept aX (by decide), hF.kept aX (by decide), hU.kept aX (by decide), hR.kept aX (by decide), hG.kept aX (by decide), (hK.kept hA aX (by decide)).le (by omega), hP.kept hA aX (by decide), (hN.kept aX (by decide)).le (by omega)⟩
    obtain ⟨b1, b2⟩ := t3 i i0 i1
    rw [x3, x1, x2]
    exact ⟨updb_b (updb_b (updb_b (updb_b (updb_b b1)))), updb_j (updb_j (updb_j (updb_j (updb_j b2))))⟩
  · apply E_X12_feed
    rw [t2]
    exact ⟨by omega, fun y => by omega, fun _ => ⟨rfl, hI.thr⟩⟩
theorem op_end (hI : INV N μ) {n : Int} (hn : iR n) : SIM G l (d + 60) mX11_end mX12_end [xi n] N μ := by
  obtain ⟨hT, hD, hO, hW, hM, hS, hC, hL, hF, hU, hR, hG, hK, hP, hN⟩ := id hI
  obtain ⟨t1, t2, t3⟩ := id hT
  unfold SIM
  apply E_X11_end
  refine ⟨hn, fun z => ?_, fun z => ⟨by omega, fun z2 => ?_, fun z2 => ?_⟩⟩
  · apply E_X12_end
    exact ⟨hn, fun _ => ⟨rfl, hI.thr⟩, fun y => by omega⟩
  · apply E_X12_end
    rw [st_n _ _ _ _ _ _ (show (74 : Nat) ≠ 0 by decide), t2]
    refine ⟨hn, fun y => by omega, fun _ => ⟨by omega, fun _ => ⟨rfl, ?_⟩, fun y => by omega⟩⟩
    have aX := (FrX.st (μ := μ) (k := 0) (i := 1) (v := n)).tr ((FrX.st (μ := st2 μ 0 1 n) (k := 74) (i := 0) (v := 0)).tr (FrX.st (k := 74) (i := 2) (v := n)))
    have hA : MA μ _ := MA.of aX (by decide)
    refine ⟨⟨by simp [st2]; omega, by simp [st2], fun i i0 i1 => by simpa [st2] using t3 i i0 i1⟩, hD.kept aX (by decide), hO.kept aX (by decide), hW.kept aX (by decide), hM.kept aX (by decide), hS.kept aX (by decide), hC.kept aX (by decide), hL.kept aX (by decide), hF.kept aX (by decide), hU.kept aX (by decide), hR.kept aX (by decide), hG.kept aX (by decide), (hK.kept hA aX (by decide)).le (by omega), hP.kept hA aX (by decide), (hN.kept aX (by decide)).le (by omega)⟩
  · apply E_X12_end
    rw [t2]
    exact ⟨hn, fun y => by omega, fun _ => ⟨by omega, fun y => by omega, fun _ => ⟨rfl, hI.thr⟩⟩⟩
theorem op_next (hI : INV N μ) {n : Int} (hn : iR n) : SIM G l (d + 60) mX11_next mX12_next [xi n] N μ := by
  obtain ⟨hT, hD, hO, hW, hM, hS, hC, hL, hF, hU, hR, hG, hK, hP, hN⟩ := id hI
  obtain ⟨t1, t2⟩ := id hD
  have fail : ¬ (0 ≤ n ∧ n ≤ 999 ∧ μ 0 2 + n ≤ 999) → CI G l (d + 60) mX12_next [xr G 74, xi n] μ (fun r' m' => -1 = r' ∧ INV (N + 1) m') := by
    intro hz
    apply E_X12_next
    refine s_isIn hn (by decide) (by decide) (fun r hr => ⟨fun _ => ⟨rfl, hI.thr⟩, fun z => ?_⟩)
    have := (bitne hr).mp z
    rw [st_o _ _ _ _ _ (by decide), t2]
    exact ⟨by omega, fun y => by omega, fun _ => ⟨rfl, hI.thr⟩⟩
  unfold SIM
  apply E_X11_next
  refine ⟨hn, fun z => fail (by omega), fun z => ⟨fun z2 => fail (by omega), fun z2 => ⟨by omega, fun z3 => ?_, fun z3 => fail (by omega)⟩⟩⟩
  apply E_X12_next
  refine s_isIn hn (by decide) (by decide) (fun r hr => ⟨fun y => absurd ⟨z, z2⟩ ((bit0 hr).mp y), fun y => ?_⟩)
  rw [st_o _ _ _ _ _ (by decide), st_n _ _ _ _ _ _ (show (74 : Nat) ≠ 0 by decide), t2]
  refine ⟨by omega, fun _ => ⟨rfl, ?_⟩, fun y => by omega⟩
  have aX := (FrX.st (μ := μ) (k := 0) (i := 2) (v := μ 0 2 + n)).tr ((FrX.st (μ := st2 μ 0 2 (μ 0 2 + n)) (k := 74) (i := 0) (v := 0)).tr (FrX.st (k := 74) (i := 4) (v := μ 0 2 + n)))
  have hA : MA μ _ := MA.of aX (by decide)
  generalize hν : st2 (st2 (st2 μ 0 2 (μ 0 2 + n)) 74 0 0) 74 4 (μ 0 2 + n) = ν at *
  have e4 : ν 74 4 = μ 0 2 + n := by rw [← hν]; simp [st2]
  have e2 : ν 0 2 = μ 0 2 + n := by rw [← hν]; simp [st2]
  refine ⟨hT.kept aX (by decide), ⟨by omega, by omega⟩, hO.kept aX (by decide), ?_, ?_, ?_, ?_, ?_, hF.kept aX (by decide), hU.kept aX (by decide), ?_, hG.kept aX (by decide), (hK.kept hA aX (by decide)).le (by omega), hP.kept hA aX (by decide), (hN.kept aX (by decide)).le (by omega)⟩
  · have hx := hW
    have e5 : ν 5 = μ 5 := aX.k 5 (by decide)
    have e13 : ν 13 = μ 13 := aX.k 13 (by decide)
    have e14 : ν 14 = μ 14 := aX.k 14 (by decide)
    have f4 : ν 4 2 = μ 4 2 := aX.f 4 2 (by decide)
    unfold gW wfW wfD rlW at *
    simp only [e5, e13, e14, f4, hA.k 76 (by decide) (by decide), hA.k 77 (by decide) (by decide), hA.k 78 (by decide) (by decide), hA.2 20 (by decide) (by decide)]
    exact ⟨hx.1, hx.2.1, hx.2.2.1, fun w a b => by have := hx.2.2.2 w a b; omega⟩
  · have hx := hM
    have e8 : ν 8 = μ 8 := aX.k 8 (by decide)
    have e15 : ν 15 = μ 15 := aX.k 15 (by decide)
    have e16 : ν 16 = μ 16 := aX.k 16 (by decide)
    have e17 : ν 17 = μ 17 := aX.k 17 (by decide)
    have f4 : ν 7 2 = μ 7 2 := aX.f 7 2 (by decide)
    unfold gM wfM rlM lastCh inCh at *
    simp only [e8, e15, e16, e17, f4, hA.k 77 (by decide) (by decide), hA.k 78 (by decide) (by decide), hA.k 79 (by decide) (by decide), hA.k 80 (by decide) (by decide), hA.k 81 (by decide) (by decide), hA.2 20 (by decide) (by decide), hA.2 21 (by decide) (by decide)]
    exact ⟨hx.1, hx.2.1, hx.2.2.1, fun k a b => by have := hx.2.2.2.1 k a b; omega, hx.2.2.2.2⟩
  · have hx := hS
    have e11 : ν 11 = μ 11 := aX.k 11 (by decide)
    have e18 : ν 18 = μ 18 := aX.k 18 (by decide)
    have f4 : ν 10 2 = μ 10 2 := aX.f 10 2 (by decide)
    unfold gS wfS at *
    simp only [e11, e18, f4, hA.k 82 (by decide) (by decide), hA.k 83 (by decide) (by decide), hA.k 84 (by decide) (by decide), hA.2 20 (by decide) (by decide), hA.2 22 (by decide) (by decide)]
    exact ⟨hx.1, hx.2.1, hx.2.2.1, fun k a b => by have := hx.2.2.2.1 k a b; omega, hx.2.2.2.2⟩
  · have hx := hC
    have e21 : ν 21 = μ 21 := aX.k 21 (by decide)
    have e22 : ν 22 = μ 22 := aX.k 22 (by decide)
    have e23 : ν 23 = μ 23 := aX.k 23 (by decide)
    have e24 : ν 24 = μ 24 := aX.k 24 (by decide)
    have e25 : ν 25 = μ 25 := aX.k 25 (by decide)
    have f4 : ν 20 2 = μ 20 2 := aX.f 20 2 (by decide)
    have f5 : ν 19 4 = μ 19 4 := aX.f 19 4 (by decide)
    unfold gC clW at *
    simp only [e21, e22, e23, e24, e25, f4, f5, cwd_eq hA, hA.k 85 (by decide) (by decide), hA.k 86 (by decide) (by decide), hA.k 87 (by decide) (by decide), hA.k 89 (by decide) (by decide), hA.2 20 (by decide) (by decide), hA.2 23 (by decide) (by decide)]
    exact ⟨hx.1, hx.2.1, hx.2.2.1, fun k a b => by obtain ⟨x1, x2, x3⟩ := hx.2.2.2.1 k a b; exact ⟨x1, by omega, x3⟩, hx.2.2.2.2⟩
  · have hx := hL
    have e55 : ν 55 = μ 55 := aX.k 55 (by decide)
    have e56 : ν 56 = μ 56 := aX.k 56 (by decide)
    have e57 : ν 57 = μ 57 := aX.k 57 (by decide)
    have e114 : ν 114 = μ 114 := aX.k 114 (by decide)
    have e115 : ν 115 = μ 115 := aX.k 115 (by decide)
    have e116 : ν 116 = μ 116 := aX.k 116 (by decide)
    have f4 : ν 54 2 = μ 54 2 := aX.f 54 2 (by decide)
    have f5 : ν 74 67 = μ 74 67 := aX.f 74 67 (by decide)
    unfold gL at *
    simp only [e55, e56, e57, e114, e115, e116, f4, f5, hA.k 77 (by decide) (by decide), hA.k 89 (by decide) (by decide), hA.2 20 (by decide) (by decide)]
    exact ⟨hx.1, hx.2.1, hx.2.2.1, fun k a b => by obtain ⟨x1, x2, x3⟩ := hx.2.2.2.1 k a b; exact ⟨x1, by omega, x3⟩, hx.2.2.2.2⟩
  · have hx := hR
    have e69 : ν 69 = μ 69 := aX.k 69 (by decide)
    have e71 : ν 71 = μ 71 := aX.k 71 (by decide)
    have e72 : ν 72 = μ 72 := aX.k 72 (by decide)
    have e126 : ν 126 = μ 126 := aX.k 126 (by decide)
    have e127 : ν 127 = μ 127 := aX.k 127 (by decide)
    have e128 : ν 128 = μ 128 := aX.k 128 (by decide)
    have f4 : ν 68 2 = μ 68 2 := aX.f 68 2 (by decide)
    have f5 : ν 74 81 = μ 74 81 := aX.f 74 81 (by decide)
    unfold gR at *
    simp only [e69, e71, e72, e126, e127, e128, f4, f5]
    exact ⟨hx.1, hx.2.1, fun k a b => by obtain ⟨x1, x2, x3⟩ := hx.2.2 k a b; exact ⟨x1, by omega, x3⟩⟩
end Ops1
