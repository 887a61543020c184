/-! Reader: the offers -/
section SpecAdds
variable {G : xG} {l : Launch} {d : Nat} {μ : xMem} {P : Int → xMem → Prop} {PV' : xMem → Prop}
def EnvM (μ : xMem) : Prop := (1 ≤ μ 27 7 ∧ μ 27 7 ≤ 1000) ∧ (μ 27 8 = 0 ∨ μ 27 8 = 1)
theorem cap_cap {n x : Int} : cap n (cap n x) = cap n x := by unfold cap; grind
theorem cap_mul {n a b : Int} (hn : 1 ≤ n) (ha : 0 ≤ a) (hb : 0 ≤ b) : cap n (cap n a * cap n b) = cap n (a * b) := by
  unfold cap
  by_cases h1 : a < n
  · by_cases h2 : b < n
    · rw [if_pos h1, if_pos h2]
    · rw [if_pos h1, if_neg h2]
      by_cases h3 : a = 0
      · subst h3; simp
      · have e1 : 1 * n ≤ a * n := Int.mul_le_mul_of_nonneg_right (by omega) (by omega)
        have e2 : a * n ≤ a * b := Int.mul_le_mul_of_nonneg_left (by omega) (by omega)
        rw [if_neg (by omega), if_neg (by omega)]
  · by_cases h2 : b < n
    · rw [if_neg h1, if_pos h2]
      by_cases h3 : b = 0
      · subst h3; simp
      · have e1 : n * 1 ≤ n * b := Int.mul_le_mul_of_nonneg_left (by omega) (by omega)
        have e2 : n * b ≤ a * b := Int.mul_le_mul_of_nonneg_right (by omega) (by omega)
        rw [if_neg (by omega), if_neg (by omega)]
    · rw [if_neg h1, if_neg h2]
      have e1 : n * 1 ≤ n * n := Int.mul_le_mul_of_nonneg_left (by omega) (by omega)
      have e2 : n * n ≤ a * n := Int.mul_le_mul_of_nonneg_right (by omega) (by omega)
      have e3 : a * n ≤ a * b := Int.mul_le_mul_of_nonneg_left (by omega) (by omega)
      rw [if_neg (by omega), if_neg (by omega)]
theorem Hd.ways {q : Int} {T : Tri} {m : Int} (hE : EnvM μ) (h : Hd μ q T) (hT : vT m T) : 0 ≤ μ 29 q ∧ μ 29 q ≤ 1000 ∧ (μ 29 q = 0 ↔ T.1 = 0) ∧ cap (μ 27 7) (μ 29 q) = cap (μ 27 7) T.1 := by
  obtain ⟨⟨e1, e2⟩, -⟩ := hE
  have h0 := hT.1
  have h1 := h.1
  refine ⟨?_, ?_, ?_, ?_⟩
  · rw [h1]; unfold cap; split <;> omega
  · rw [h1]; unfold cap; split <;> omega
  · rw [h1]; unfold cap; split <;> omega
  · rw [h1, cap_cap]
theorem Hd.cost {q : Int} {T : Tri} {m : Int} (hE : EnvM μ) (h : Hd μ q T) (hT : vT m T) (hz : T.1 ≠ 0) : 0 ≤ μ 30 q ∧ μ 30 q ≤ 1000 ∧ (μ 27 8 ≠ 0 → μ 30 q = T.2.1 ∧ Nm μ q T.2.2) := by
  obtain ⟨-, e3⟩ := hE
  obtain ⟨h1, h2, h3⟩ := h
  have h4 := (hT.2 hz).2.2
  rcases e3 with e | e
  · have := h2 e
    exact ⟨by omega, by omega, fun y => absurd e y⟩
  · have := ((h3 (by omega)).2 hz)
    exact ⟨by omega, by omega, fun _ => this⟩
theorem EnvM.q {q : Int} {μ' : xMem} (h : EnvM μ) (hf : FrQ q μ μ') : EnvM μ' := by
  have e8 := hf 27 8 (by decide) (Or.inr (by decide)) (Or.inl (by decide)) (Or.inl (by decide)) (Or.inl (by decide))
  have e7 := hf 27 7 (by decide) (Or.inr (by decide)) (Or.inl (by decide)) (Or.inl (by decide)) (Or.inl (by decide))
  unfold EnvM
  rw [e7, e8]
  exact h
theorem Md.nam {q : Int} {T u : Tri} (h : Md μ q T u) : μ 27 8 ≠ 0 := h.1
theorem FrQ.nam {q : Int} {μ' : xMem} (hf : FrQ q μ μ') : μ' 27 8 = μ 27 8 := hf 27 8 (by decide) (Or.inr (by decide)) (Or.inl (by decide)) (Or.inl (by decide)) (Or.inl (by decide))
theorem s_addAlone {q p : Int} {T U : Tri} (hE : EnvM μ) (hq : 0 ≤ q ∧ q < 7922) (hp : 0 ≤ p ∧ p < 7922) (hne : p ≠ q) (hT : vT 36 T) (hU : vT 36 U) (hH : Hd μ q T) (hK : Hd μ p U) (h : ∀ μ', FrQ q μ μ' → Hd μ' q (mg T U) → PV' μ') : CV G l (d + 3) mX8_addAlone [xr G 26, xi q, xi p] μ PV' := by
  obtain ⟨w1, w2, w3, w4⟩ := hK.ways hE hU
  have hU0 := hU.1
  apply E_X8_addAlone
  refine ⟨hp, by omega, fun z => ?_, fun z => ?_⟩
  · have e := w3.mp (by omega)
    have h9 := h μ FrQ.rf
    rw [mg_0 _ _ e] at h9
    exact h9 hH
  · have hz : U.1 ≠ 0 := fun e => by have := w3.mpr e; omega
    obtain ⟨c1, c2, c3⟩ := hK.cost hE hU hz
    obtain ⟨o1, o2, o3, o4⟩ := hU.2 hz
    refine s_offer (T := T) (u := U) hq hE.1 hE.2 hT hH (by omega) (by omega) w4 (by omega) (fun y => ⟨(c3 y).1, o4⟩) (fun m1 f1 g1 => ⟨fun _ => h m1 f1 g1, fun y => absurd rfl y⟩) (fun m1 f1 g1 g2 => ⟨fun y => absurd y (by decide), fun _ => ?_⟩)
    have hn : μ 27 8 ≠ 0 := by rw [← f1.nam]; exact g2.nam
    refine s_putName o1 hp g1 ((c3 hn).2.keptQ f1 hne) (by simp; omega) (fun m2 g3 f2 => ?_)
    rw [(c3 hn).1]
    exact s_keep hq hT (by omega) ⟨o3, o4⟩ rfl g3 (g2.kept f2) (fun m3 f3 g4 => h m3 (f1.tr (f2.q.tr f3)) g4)
theorem s_addJoined {q p r k : Int} {T A B : Tri} (hE : EnvM μ) (hq : 0 ≤ q ∧ q < 7922) (hp : 0 ≤ p ∧ p < 7922) (hr : 0 ≤ r ∧ r < 7922) (hne : p ≠ q) (hne2 : r ≠ q) (hk : -1 ≤ k ∧ k ≤ 19) (hT : vT 36 T) (hA : vT 36 A) (hB : vT 36 B) (hlen : A.1 ≠ 0 → B.1 ≠ 0 → A.2.2.length + B.2.2.length + 2 ≤ 36 ∧ A.2.1 + B.2.1 ≤ 100) (hH : Hd μ q T) (hKA : Hd μ p A) (hKB : Hd μ r B) (h : ∀ μ', FrQ q μ μ' → Hd μ' q (mg T (jn A k B)) → PV' μ') : CV G l (d + 4) mX8_addJoined [xr G 26, xi q, xi p, xi k, xi r] μ PV' := by
  obtain ⟨a1, a2, a3, a4⟩ := hKA.ways hE hA
  obtain ⟨b1, b2, b3, b4⟩ := hKB.ways hE hB
  have hA0 := hA.1
  have hB0 := hB.1
  have hprod : 0 ≤ μ 29 p * μ 29 r := Int.mul_nonneg a1 b1
  have hprod2 : μ 29 p * μ 29 r ≤ 1000 * 1000 := Int.mul_le_mul a2 b2 b1 (by decide)
  apply E_X8_addJoined
  refine ⟨hp, hr, by omega, fun z => ?_, fun z => ?_⟩
  · have e : (jn A k B).1 = 0 := by
      show A.1 * B.1 = 0
      have : μ 29 p * μ 29 r = 0 := by omega
      rcases Int.mul_eq_zero.mp this with y | y
      · rw [a3.mp y]; simp
      · rw [b3.mp y]; simp
    have h9 := h μ FrQ.rf
    rw [mg_0 _ _ e] at h9
    exact h9 hH
  · have hza : A.1 ≠ 0 := fun e => by rw [a3.mpr e] at z; simp at z
    have hzb : B.1 ≠ 0 := fun e => by rw [b3.mpr e] at z; simp at z
    obtain ⟨c1, c2, c3⟩ := hKA.cost hE hA hza
    obtain ⟨e1, e2, e3⟩ := hKB.cost hE hB hzb
    obtain ⟨o1, o2, o3, o4⟩ := hA.2 hza
    obtain ⟨p1, p2, p3, p4⟩ := hB.2 hzb
    obtain ⟨l1, l2⟩ := hlen hza hzb
    have hu : 1 ≤ (jn A k B).1 := by
      show 1 ≤ A.1 * B.1
      have : 0 < A.1 * B.1 := Int.mul_pos (by omega) (by omega)
      omega
    have hcap : cap (μ 27 7) (μ 29 p * μ 29 r) = cap (μ 27 7) (jn A k B).1 := by
      rw [hKA.1, hKB.1]
      exact cap_mul hE.1.1 hA0 hB0
    refine s_offer (T := T) (u := jn A k B) hq hE.1 hE.2 hT hH (by omega) hu hcap (by omega) (fun y => ⟨by rw [(c3 y).1, (e3 y).1]; rfl, l2⟩) (fun m1 f1 g1 => ⟨fun _ => h m1 f1 g1, fun y => absurd rfl y⟩) (fun m1 f1 g1 g2 => ⟨fun y => absurd y (by decide), fun _ => ?_⟩)
    have hn : μ 27 8 ≠ 0 := by rw [← f1.nam]; exact g2.nam
    refine s_putName o1 hp g1 ((c3 hn).2.keptQ f1 hne) (by simp; omega) (fun m2 g3 f2 => ?_)
    refine s_putLink g3 (by simp; omega) hk (fun m3 g4 f3 => ?_)
    refine s_putName p1 hr g4 (((e3 hn).2.keptQ f1 hne2).kept (f2.tr f3)) (by simp [nLnk]; split <;> simp <;> omega) (fun m4 g5 f4 => ?_)
    rw [(c3 hn).1, (e3 hn).1]
    have eL : [] ++ A.2.2 ++ nLnk k ++ B.2.2 = (jn A k B).2.2 := by simp [jn]
    rw [eL] at g5
    exact s_keep hq hT hu ⟨by show 0 ≤ A.2.1 + B.2.1; omega, l2⟩ rfl g5 (g2.kept (f2.tr (f3.tr f4))) (fun m5 f5 g6 => h m5 (f1.tr (f2.q.tr (f3.q.tr (f4.q.tr f5)))) g6)
theorem s_addTurned {q r S : Int} {T B : Tri} (hE : EnvM μ) (hq : 0 ≤ q ∧ q < 7922) (hr : 0 ≤ r ∧ r < 7922) (hne : r ≠ q) (hS : 0 ≤ S ∧ S ≤ 19) (hT : vT 36 T) (hB : vT 36 B) (hlen : B.1 ≠ 0 → B.2.2.length + 4 ≤ 36 ∧ 1 + B.2.1 ≤ 100) (hH : Hd μ q T) (hK : Hd μ r B) (h : ∀ μ', FrQ q μ μ' → Hd μ' q (mg T (B.1, 1 + B.2.1, nTrn S B.2.2)) → PV' μ') : CV G l (d + 4) mX8_addTurned [xr G 26, xi q, xi S, xi r] μ PV' := by
  obtain ⟨w1, w2, w3, w4⟩ := hK.ways hE hB
  have hU0 := hB.1
  apply E_X8_addTurned
  refine ⟨hr, by omega, fun z => ?_, fun z => ?_⟩
  · have e := w3.mp (by omega)
    have h9 := h μ FrQ.rf
    rw [mg_0 T (B.1, 1 + B.2.1, nTrn S B.2.2) e] at h9
    exact h9 hH
  · have hz : B.1 ≠ 0 := fun e => by have := w3.mpr e; omega
    obtain ⟨c1, c2, c3⟩ := hK.cost hE hB hz
    obtain ⟨o1, o2, o3, o4⟩ := hB.2 hz
    obtain ⟨l1, l2⟩ := hlen hz
    refine s_offer (T := T) (u := (B.1, 1 + B.2.1, nTrn S B.2.2)) hq hE.1 hE.2 hT hH (by omega) (by show 1 ≤ B.1; omega) w4 (by omega) (fun y => ⟨by rw [(c3 y).1], l2⟩) (fun m1 f1 g1 => ⟨fun _ => h m1 f1 g1, fun y => absurd rfl y⟩) (fun m1 f1 g1 g2 => ⟨fun y => absurd y (by decide), fun _ => ?_⟩)
    have hn : μ 27 8 ≠ 0 := by rw [← f1.nam]; exact g2.nam
    refine s_putWord g1 (by simp) (by omega) hS (fun m2 g3 f2 => s_put g3 (by simp) (by omega) (fun m3 g4 f3 => ?_))
    refine s_putName o1 hr g4 (((c3 hn).2.keptQ f1 hne).kept (f2.tr f3)) (by simp; omega) (fun m4 g5 f4 => s_put g5 (by simp; omega) (by omega) (fun m5 g6 f5 => ?_))
    rw [(c3 hn).1]
    have eL : [] ++ [31, 12 + S] ++ [1] ++ B.2.2 ++ [2] = nTrn S B.2.2 := by simp [nTrn]
    rw [eL] at g6
    exact s_keep (u := (B.1, 1 + B.2.1, nTrn S B.2.2)) hq hT (by show 1 ≤ B.1; omega) ⟨by show 0 ≤ 1 + B.2.1; omega, l2⟩ rfl g6 (g2.kept (f2.tr (f3.tr (f4.tr f5)))) (fun m6 f6 g7 => h m6 (f1.tr (f2.q.tr (f3.q.tr (f4.q.tr (f5.q.tr f6))))) g7)
theorem s_costOf {v : Int} (hv : v = 28 ∨ v = 29) (h : P (if v = 28 then 2 else 1) μ) : CI G l (d + 1) mX8_costOf [xr G 26, xi v] μ P := by
  apply E_X8_costOf
  refine ⟨by omega, fun z => ?_, fun z => ?_⟩
  · rw [if_neg z] at h; exact h
  · rw [if_pos z] at h; exact h
theorem s_addCut {q pl S w how n : Int} {T : Tri} {y : Int} (hE : EnvM μ) (hq : 0 ≤ q ∧ q < 7922) (hpl : 0 ≤ pl ∧ pl < 10) (hy : xPS pl.toNat = y) (hy2 : 1 ≤ y ∧ y ≤ 31) (hS : 0 ≤ S ∧ S ≤ 19) (hw : 0 ≤ w ∧ w ≤ 19) (hh : how = 28 ∨ how = 29) (hn0 : 0 ≤ n ∧ n ≤ 1000) (hT : vT 36 T) (hH : Hd μ q T) (h : ∀ μ', FrQ q μ μ' → Hd μ' q (mg T (n, 1 + (if how = 28 then 2 else 1), nCut y S how w)) → PV' μ') : CV G l (d + 4) mX8_addCut [xr G 26, xi q, xi pl, xi S, xi w, xi how, xi n] μ PV' := by
  apply E_X8_addCut
  refine s_costOf hh ⟨by omega, fun z => ?_, fun z => ?_⟩
  · have h9 := h μ FrQ.rf
    rw [mg_0 _ _ (show n = 0 by omega)] at h9
    exact h9 hH
  · have hb : 0 ≤ (if how = 28 then (2 : Int) else 1) ∧ (if how = 28 then (2 : Int) else 1) ≤ 2 := by split <;> omega
    refine s_offer (T := T) (u := (n, 1 + (if how = 28 then 2 else 1), nCut y S how w)) hq hE.1 hE.2 hT hH (by omega) (by show 1 ≤ n; omega) rfl (by omega) (fun _ => ⟨rfl, by show 1 + _ ≤ (100 : Int); omega⟩) (fun m1 f1 g1 => ⟨fun _ => h m1 f1 g1, fun y => absurd rfl y⟩) (fun m1 f1 g1 g2 => ⟨fun y => absurd y (by decide), fun _ => ⟨hpl, ?_⟩⟩)
    rw [hy]
    refine s_putWord g1 (by simp) hy2 hS (fun m2 g3 f2 => s_put g3 (by simp) (by omega) (fun m3 g4 f3 => s_putWord g4 (by simp) (by omega) hw (fun m4 g5 f4 => s_put g5 (by simp) (by omega) (fun m5 g6 f5 => ?_))))
    have eL : [] ++ [y, 12 + S] ++ [1] ++ [how, 12 + w] ++ [2] = nCut y S how w := by simp [nCut]
    rw [eL] at g6
    exact s_keep (u := (n, 1 + (if how = 28 then 2 else 1), nCut y S how w)) hq hT (by show 1 ≤ n; omega) ⟨by show 0 ≤ 1 + _; omega, by show 1 + _ ≤ (100 : Int); omega⟩ rfl g6 (g2.kept (f2.tr (f3.tr (f4.tr f5)))) (fun m6 f6 g7 => h m6 (f1.tr (f2.q.tr (f3.q.tr (f4.q.tr (f5.q.tr f6))))) g7)
theorem wds_len : ∀ (n : Nat) (f : Int), (wds n f).length = n
  | 0, _ => rfl
  | n + 1, f => by rw [wds, List.length_cons, wds_len n (f + 1)]
theorem s_addSpread {q pl S f t : Int} {T : Tri} {y : Int} (hE : EnvM μ) (hq : 0 ≤ q ∧ q < 7922) (hpl : 0 ≤ pl ∧ pl < 10) (hy : xPS pl.toNat = y) (hy2 : 1 ≤ y ∧ y ≤ 31) (hS : 0 ≤ S ∧ S ≤ 19) (hf : 0 ≤ f) (hft : f ≤ t) (ht : t ≤ 7) (hT : vT 36 T) (hH : Hd μ q T) (h : ∀ μ', FrQ q μ μ' → Hd μ' q (mg T (1, 1, nSpr y S f t)) → PV' μ') : CV G l (d + 3) mX8_addSpread [xr G 26, xi q, xi pl, xi S, xi f, xi t] μ PV' := by
  apply E_X8_addSpread
  refine s_offer (T := T) (u := (1, 1, nSpr y S f t)) hq hE.1 hE.2 hT hH (by omega) (show (1 : Int) ≤ 1 by decide) rfl (by decide) (fun _ => ⟨rfl, show (1 : Int) ≤ 100 by decide⟩) (fun m1 f1 g1 => ⟨fun _ => h m1 f1 g1, fun y => absurd rfl y⟩) (fun m1 f1 g1 g2 => ⟨fun y => absurd y (by decide), fun _ => ⟨hpl, ?_⟩⟩)
  rw [hy]
  refine s_putWord g1 (by simp) hy2 hS (fun m2 g3 f2 => s_put g3 (by simp) (by omega) (fun m3 g4 f3 => ?_))
  have main : ∀ (n : Nat) (v : Int) (L : List Int) (m : xMem), v + n = t + 1 → 0 ≤ v → L.length + n ≤ 30 → Dr m L → FrD m1 m → L ++ (wds n v ++ [2]) = nSpr y S f t → K_X8_addSpread_38 G l (d + 3) PV' q t v m := by
    intro n
    induction n with
    | zero =>
      intro v L m hv v0 hl gD fD eL
      apply B_X8_addSpread_38
      refine ⟨by omega, by omega, fun _ => s_put gD (by omega) (by omega) (fun m5 g6 f5 => ?_), fun z => by omega⟩
      have eL2 : L ++ [2] = nSpr y S f t := by rw [← eL]; simp [wds]
      rw [eL2] at g6
      exact s_keep (u := (1, 1, nSpr y S f t)) hq hT (show (1 : Int) ≤ 1 by decide) ⟨show (0 : Int) ≤ 1 by decide, show (1 : Int) ≤ 100 by decide⟩ rfl g6 (g2.kept (fD.tr f5)) (fun m6 f6 g7 => h m6 (f1.tr (fD.q.tr (f5.q.tr f6))) g7)
    | succ n ih =>
      intro v L m hv v0 hl gD fD eL
      apply B_X8_addSpread_38
      refine ⟨by omega, by omega, fun z => by omega, fun _ => s_put gD (by omega) (by omega) (fun m5 g6 f5 => ?_)⟩
      exact ih (v + 1) _ m5 (by omega) (by omega) (by simp; omega) g6 (fD.tr f5) (by rw [← eL]; simp [wds])
  exact main (t - f + 1).toNat f _ m3 (by omega) hf (by simp; omega) g4 (f2.tr f3) (by simp [nSpr])
theorem s_addAround {q pl r ah how w S : Int} {T B : Tri} {y : Int} (hE : EnvM μ) (hq : 0 ≤ q ∧ q < 7922) (hr : 0 ≤ r ∧ r < 7922) (hne : r ≠ q) (hpl : pl = 7 ∨ pl = 8) (hy : xPS pl.toNat = y) (hy2 : 1 ≤ y ∧ y ≤ 31) (hSw : S = (if pl = 7 then w - 1 else w + 1)) (hS : 0 ≤ S ∧ S ≤ 19) (hw : 0 ≤ w ∧ w ≤ 18) (hah : 1 ≤ ah ∧ ah ≤ 8) (hh : how = 28 ∨ how = 29) (hT : vT 36 T) (hB : vT 36 B) (hlen : B.1 ≠ 0 → B.2.2.length + 7 ≤ 36 ∧ 1 + B.2.1 + 2 ≤ 100) (hH : Hd μ q T) (hK : Hd μ r B) (h : ∀ μ', FrQ q μ μ' → Hd μ' q (mg T (B.1, 1 + B.2.1 + (if how = 28 then 2 else 1), nArd y S B.2.2 ah how w)) → PV' μ') : CV G l (d + 4) mX8_addAround [xr G 26, xi q, xi pl, xi r, xi ah, xi how, xi w] μ PV' := by
  obtain ⟨w1, w2, w3, w4⟩ := hK.ways hE hB
  have hU0 := hB.1
  have hb : 0 ≤ (if how = 28 then (2 : Int) else 1) ∧ (if how = 28 then (2 : Int) else 1) ≤ 2 := by split <;> omega
  apply E_X8_addAround
  refine ⟨hr, s_costOf hh ⟨by omega, fun z => ?_, fun z => ?_⟩⟩
  · have e := w3.mp (by omega)
    have h9 := h μ FrQ.rf
    rw [mg_0 T (B.1, 1 + B.2.1 + (if how = 28 then 2 else 1), nArd y S B.2.2 ah how w) e] at h9
    exact h9 hH
  · have hz : B.1 ≠ 0 := fun e => by have := w3.mpr e; omega
    obtain ⟨c1, c2, c3⟩ := hK.cost hE hB hz
    obtain ⟨o1, o2, o3, o4⟩ := hB.2 hz
    obtain ⟨l1, l2⟩ := hlen hz
    refine s_offer (T := T) (u := (B.1, 1 + B.2.1 + (if how = 28 then 2 else 1), nArd y S B.2.2 ah how w)) hq hE.1 hE.2 hT hH (by omega) (by show 1 ≤ B.1; omega) w4 (by omega) (fun y => ⟨by rw [(c3 y).1], by show 1 + B.2.1 + _ ≤ (100 : Int); omega⟩) (fun m1 f1 g1 => ⟨fun _ => h m1 f1 g1, fun y => absurd rfl y⟩) (fun m1 f1 g1 g2 => ⟨fun y => absurd y (by decide), fun _ => ⟨by omega, by omega, ?_⟩⟩)
    have hn : μ 27 8 ≠ 0 := by rw [← f1.nam]; exact g2.nam
    have main : K_X8_addAround_80 G l (d + 4) PV' q r ah how w ((1 + (μ 30 r)) + (if how = 28 then 2 else 1)) (xPS pl.toNat) S m1 := by
      apply B_X8_addAround_80
      rw [hy]
      refine s_putWord g1 (by simp) hy2 hS (fun m2 g3 f2 => s_put g3 (by simp) (by omega) (fun m3 g4 f3 => ?_))
      refine s_putName o1 hr g4 (((c3 hn).2.keptQ f1 hne).kept (f2.tr f3)) (by simp; omega) (fun m4 g5 f4 => s_put g5 (by simp; omega) (by omega) (fun m5 g6 f5 => s_put g6 (by simp; omega) (by omega) (fun m6 g7 f6 => s_putWord g7 (by simp; omega) (by omega) (by omega) (fun m7 g8 f7 => ?_))))
      rw [(c3 hn).1]
      have eL : [] ++ [y, 12 + S] ++ [1] ++ B.2.2 ++ [2] ++ [2 + ah] ++ [how, 12 + w] = nArd y S B.2.2 ah how w := by simp [nArd]
      rw [eL] at g8
      exact s_keep (u := (B.1, 1 + B.2.1 + (if how = 28 then 2 else 1), nArd y S B.2.2 ah how w)) hq hT (by show 1 ≤ B.1; omega) ⟨by show 0 ≤ 1 + B.2.1 + _; omega, by show 1 + B.2.1 + _ ≤ (100 : Int); omega⟩ rfl g8 (g2.kept (f2.tr (f3.tr (f4.tr (f5.tr (f6.tr f7)))))) (fun m8 f8 g9 => h m8 (f1.tr (f2.q.tr (f3.q.tr (f4.q.tr (f5.q.tr (f6.q.tr (f7.q.tr f8))))))) g9)
    refine ⟨fun z7 => ?_, fun z7 => ?_⟩
    · rw [if_neg z7] at hSw
      rw [← hSw]
      exact main
    · rw [if_pos z7] at hSw
      rw [← hSw]
      exact main
theorem s_addFront {r k : Int} {T B : Tri} (hE : EnvM μ) (hr : 0 ≤ r ∧ r < 7922) (hne : r ≠ 7920) (hk : -1 ≤ k ∧ k ≤ 19) (hT : vT 36 T) (hB : vT 36 B) (hlen : B.1 ≠ 0 → B.2.2.length + 5 ≤ 36 ∧ 1 + B.2.1 ≤ 100) (hH : Hd μ 7920 T) (hK : Hd μ r B) (h : ∀ μ', FrQ 7920 μ μ' → Hd μ' 7920 (mg T (B.1, 1 + B.2.1, [29, 12, 11] ++ (nLnk k ++ B.2.2))) → PV' μ') : CV G l (d + 4) mX8_addFront [xr G 26, xi k, xi r] μ PV' := by
  obtain ⟨w1, w2, w3, w4⟩ := hK.ways hE hB
  have hU0 := hB.1
  apply E_X8_addFront
  refine ⟨hr, by omega, fun z => ?_, fun z => ?_⟩
  · have e := w3.mp (by omega)
    have h9 := h μ FrQ.rf
    rw [mg_0 T (B.1, 1 + B.2.1, [29, 12, 11] ++ (nLnk k ++ B.2.2)) e] at h9
    exact h9 hH
  · have hz : B.1 ≠ 0 := fun e => by have := w3.mpr e; omega
    obtain ⟨c1, c2, c3⟩ := hK.cost hE hB hz
    obtain ⟨o1, o2, o3, o4⟩ := hB.2 hz
    obtain ⟨l1, l2⟩ := hlen hz
    refine s_offer (T := T) (u := (B.1, 1 + B.2.1, [29, 12, 11] ++ (nLnk k ++ B.2.2))) (by decide) hE.1 hE.2 hT hH (by omega) (by show 1 ≤ B.1; omega) w4 (by omega) (fun y => ⟨by rw [(c3 y).1], l2⟩) (fun m1 f1 g1 => ⟨fun _ => h m1 f1 g1, fun y => absurd rfl y⟩) (fun m1 f1 g1 g2 => ⟨fun y => absurd y (by decide), fun _ => ?_⟩)
    have hn : μ 27 8 ≠ 0 := by rw [← f1.nam]; exact g2.nam
    refine s_putWord g1 (by simp) (by decide) (by decide) (fun m2 g3 f2 => s_put g3 (by simp) (by decide) (fun m3 g4 f3 => s_putLink g4 (by simp) hk (fun m4 g5 f4 => ?_)))
    refine s_putName o1 hr g5 (((c3 hn).2.keptQ f1 hne).kept (f2.tr (f3.tr f4))) (by simp [nLnk]; split <;> simp <;> omega) (fun m5 g6 f5 => ?_)
    rw [(c3 hn).1]
    have eL : [] ++ [29, 12 + 0] ++ [11] ++ nLnk k ++ B.2.2 = [29, 12, 11] ++ (nLnk k ++ B.2.2) := by simp
    rw [eL] at g6
    exact s_keep (u := (B.1, 1 + B.2.1, [29, 12, 11] ++ (nLnk k ++ B.2.2))) (by decide) hT (by show 1 ≤ B.1; omega) ⟨by show 0 ≤ 1 + B.2.1; omega, l2⟩ rfl g6 (g2.kept (f2.tr (f3.tr (f4.tr f5)))) (fun m6 f6 g7 => h m6 (f1.tr (f2.q.tr (f3.q.tr (f4.q.tr (f5.q.tr f6))))) g7)
theorem s_addBack {r k : Int} {T B : Tri} (hE : EnvM μ) (hr : 0 ≤ r ∧ r < 7922) (hne : r ≠ 7920) (hk : -1 ≤ k ∧ k ≤ 19) (hsz : 1 ≤ μ 33 5 ∧ μ 33 5 ≤ 8) (hT : vT 36 T) (hB : vT 36 B) (hlen : B.1 ≠ 0 → B.2.2.length + 5 ≤ 36 ∧ 1 + B.2.1 ≤ 100) (hH : Hd μ 7920 T) (hK : Hd μ r B) (h : ∀ μ', FrQ 7920 μ μ' → Hd μ' 7920 (mg T (B.1, 1 + B.2.1, B.2.2 ++ (nLnk k ++ [11, 29, 12 + (μ 33 5 - 1)]))) → PV' μ') : CV G l (d + 4) mX8_addBack [xr G 26, xi k, xi r] μ PV' := by
  obtain ⟨w1, w2, w3, w4⟩ := hK.ways hE hB
  have hU0 := hB.1
  apply E_X8_addBack
  refine ⟨hr, by omega, fun z => ?_, fun z => ?_⟩
  · have e := w3.mp (by omega)
    have h9 := h μ FrQ.rf
    rw [mg_0 T (B.1, 1 + B.2.1, B.2.2 ++ (nLnk k ++ [11, 29, 12 + (μ 33 5 - 1)])) e] at h9
    exact h9 hH
  · have hz : B.1 ≠ 0 := fun e => by have := w3.mpr e; omega
    obtain ⟨c1, c2, c3⟩ := hK.cost hE hB hz
    obtain ⟨o1, o2, o3, o4⟩ := hB.2 hz
    obtain ⟨l1, l2⟩ := hlen hz
    refine s_offer (T := T) (u := (B.1, 1 + B.2.1, B.2.2 ++ (nLnk k ++ [11, 29, 12 + (μ 33 5 - 1)]))) (by decide) hE.1 hE.2 hT hH (by omega) (by show 1 ≤ B.1; omega) w4 (by omega) (fun y => ⟨by rw [(c3 y).1], l2⟩) (fun m1 f1 g1 => ⟨fun _ => h m1 f1 g1, fun y => absurd rfl y⟩) (fun m1 f1 g1 g2 => ⟨fun y => absurd y (by decide), fun _ => ?_⟩)
    have hn : μ 27 8 ≠ 0 := by rw [← f1.nam]; exact g2.nam
    refine s_putName o1 hr g1 ((c3 hn).2.keptQ f1 hne) (by simp; omega) (fun m2 g3 f2 => s_putLink g3 (by simp; omega) hk (fun m3 g4 f3 => s_put g4 (by simp [nLnk]; split <;> simp <;> omega) (by decide) (fun m4 g5 f4 => ?_)))
    have e33 : m4 33 5 = μ 33 5 := by rw [f4 33 5 (by decide) (by decide), f3 33 5 (by decide) (by decide), f2 33 5 (by decide) (by decide), f1 33 5 (by decide) (by decide) (by decide) (by decide) (by decide)]
    rw [e33]
    refine s_putWord g5 (by simp [nLnk]; split <;> simp <;> omega) (by decide) (by omega) (fun m5 g6 f5 => ?_)
    rw [(c3 hn).1]
    have eL : [] ++ B.2.2 ++ nLnk k ++ [11] ++ [29, 12 + (μ 33 5 - 1)] = B.2.2 ++ (nLnk k ++ [11, 29, 12 + (μ 33 5 - 1)]) := by simp
    rw [eL] at g6
    exact s_keep (u := (B.1, 1 + B.2.1, B.2.2 ++ (nLnk k ++ [11, 29, 12 + (μ 33 5 - 1)]))) (by decide) hT (by show 1 ≤ B.1; omega) ⟨by show 0 ≤ 1 + B.2.1; omega, l2⟩ rfl g6 (g2.kept (f2.tr (f3.tr (f4.tr f5)))) (fun m6 f6 g7 => h m6 (f1.tr (f2.q.tr (f3.q.tr (f4.q.tr (f5.q.tr f6))))) g7)
end SpecAdds
