/-! Reader: rows and pieces, what the memo holds -/
section SpecRec3
variable {G : xG} {l : Launch} {d : Nat} {μ ν ν' α : xMem} {P : Int → xMem → Prop} {PV' : xMem → Prop} {tl w t : Int} {O : xO}
def vl (O : xO) (tb i j a b : Int) : Tri := if tb < 2 then RV O tb i j a b else PV O (tb - 2) i j a b
def ms (tb i j : Int) : Int := if tb < 2 then 2 * (j - i) + 1 else 2 * (j - i)
def sm (q : Int) (μ ν : xMem) : Prop := ν 28 q = μ 28 q ∧ ν 29 q = μ 29 q ∧ ν 30 q = μ 30 q ∧ ∀ c, q * 3 ≤ c → c < q * 3 + 3 → ν 31 c = μ 31 c
def noP (M q : Int) : Prop := ∀ tb i j a b, okP tb i j a b → ms tb i j ≤ M → q ≠ pc tb i j a b
def Chg (M : Int) (μ ν : xMem) : Prop := ∀ q, noP M q → sm q μ ν
def Inv (O : xO) (M : Int) (μ : xMem) : Prop := Hd μ 7921 T0 ∧ ∀ tb i j a b, okP tb i j a b → ms tb i j ≤ M → μ 28 (pc tb i j a b) = μ 27 6 → Hd μ (pc tb i j a b) (vl O tb i j a b)
def StB (μ : xMem) : Prop := (0 ≤ μ 27 6 ∧ μ 27 6 < 2147483647) ∧ ∀ q, 0 ≤ q → q < 7922 → 0 ≤ μ 28 q ∧ μ 28 q ≤ μ 27 6
def Mon (μ ν : xMem) : Prop := ∀ q, μ 28 q = μ 27 6 → ν 28 q = ν 27 6
/-- a place that is ready -/
def RD (O : xO) (M : Int) (ν : xMem) (r tb i j a b : Int) : Prop := (r = 7921 ∧ vl O tb i j a b = T0) ∨ (r = pc tb i j a b ∧ okP tb i j a b ∧ ms tb i j ≤ M ∧ ν 28 r = ν 27 6)
def Pst (O : xO) (M : Int) (μ : xMem) (r : Int) (ν : xMem) (tb i j a b : Int) : Prop := FrR μ ν ∧ Chg M μ ν ∧ Mon μ ν ∧ Inv O M ν ∧ StB ν ∧ RD O M ν r tb i j a b
theorem vl_r {s i j a b : Int} (hs : s = 0 ∨ s = 1) : vl O s i j a b = RV O s i j a b := by unfold vl; rw [if_pos (by omega)]
theorem vl_p {s i j a b : Int} (hs : s = 0 ∨ s = 1) : vl O (2 + s) i j a b = PV O s i j a b := by unfold vl; rw [if_neg (by omega), show 2 + s - 2 = s by omega]
theorem ms_r {s i j : Int} (hs : s = 0 ∨ s = 1) : ms s i j = 2 * (j - i) + 1 := by unfold ms; rw [if_pos (by omega)]
theorem ms_p {s i j : Int} (hs : s = 0 ∨ s = 1) : ms (2 + s) i j = 2 * (j - i) := by unfold ms; rw [if_neg (by omega)]
theorem sm.rf {q : Int} : sm q μ μ := ⟨rfl, rfl, rfl, fun _ _ _ => rfl⟩
theorem sm.tr {q : Int} (h1 : sm q μ ν) (h2 : sm q ν ν') : sm q μ ν' := ⟨h2.1.trans h1.1, h2.2.1.trans h1.2.1, h2.2.2.1.trans h1.2.2.1, fun c a b => (h2.2.2.2 c a b).trans (h1.2.2.2 c a b)⟩
theorem FrQ.sm {q q' : Int} (h : FrQ q μ ν) (hne : q' ≠ q) : sm q' μ ν := ⟨h 28 q' (by decide) (Or.inl (by decide)) (Or.inl (by decide)) (Or.inl (by decide)) (Or.inl (by decide)), h 29 q' (by decide) (Or.inl (by decide)) (Or.inr hne) (Or.inl (by decide)) (Or.inl (by decide)), h 30 q' (by decide) (Or.inl (by decide)) (Or.inl (by decide)) (Or.inr hne) (Or.inl (by decide)), fun c x y => h 31 c (by decide) (Or.inl (by decide)) (Or.inl (by decide)) (Or.inl (by decide)) (Or.inr (by omega))⟩
theorem FrQ.st {q q' : Int} (h : FrQ q μ ν) : ν 28 q' = μ 28 q' := h 28 q' (by decide) (Or.inl (by decide)) (Or.inl (by decide)) (Or.inl (by decide)) (Or.inl (by decide))
theorem FrA.sm {q' : Int} (h : FrA μ ν) : sm q' μ ν := ⟨h 28 q' (by decide) (Or.inl (by decide)), h 29 q' (by decide) (Or.inl (by decide)), h 30 q' (by decide) (Or.inl (by decide)), fun c _ _ => h 31 c (by decide) (Or.inl (by decide))⟩
theorem FrR.st6 (h : FrR μ ν) : ν 27 6 = μ 27 6 := h 27 6 (by decide) (by decide) (by decide) (by decide)
theorem Hd.sm {q : Int} {T : Tri} (h : Hd μ q T) (hf : FrR μ ν) (hs : sm q μ ν) : Hd ν q T := by
  obtain ⟨h1, h2, h3⟩ := h
  have e8 := hf 27 8 (by decide) (by decide) (by decide) (by decide)
  have e7 := hf 27 7 (by decide) (by decide) (by decide) (by decide)
  obtain ⟨s1, s2, s3, s4⟩ := hs
  unfold Hd Nm at *
  rw [e8, e7, s2, s3, s4 _ (by omega) (by omega), s4 _ (by omega) (by omega), s4 _ (by omega) (by omega)]
  exact ⟨h1, h2, h3⟩
theorem Inv.le {M N : Int} (h : Inv O M μ) (hn : N ≤ M) : Inv O N μ := ⟨h.1, fun tb i j a b h1 h2 h3 => h.2 tb i j a b h1 (by omega) h3⟩
theorem noP.le {M N q : Int} (h : noP M q) (hn : N ≤ M) : noP N q := fun tb i j a b h1 h2 => h tb i j a b h1 (by omega)
theorem noP_21 {M : Int} : noP M 7921 := fun tb i j a b h1 _ => by have := pc_b h1; omega
/-- while the place q0 of measure M is being made -/
def BS (O : xO) (q0 M : Int) (μ ν : xMem) (T : Tri) : Prop := FrR μ ν ∧ StB ν ∧ Inv O (M - 1) ν ∧ Mon μ ν ∧ ν 28 q0 = ν 27 6 ∧ Hd ν q0 T ∧ ∀ q, q ≠ q0 → noP (M - 1) q → sm q μ ν
theorem own_no {tb i j a b M : Int} (h : okP tb i j a b) (hM : ms tb i j = M) : noP (M - 1) (pc tb i j a b) := by
  intro tb' i' j' a' b' h1 h2 e
  obtain ⟨e1, e2, e3, -, -⟩ := pc_inj h h1 e
  rw [← e1, ← e2, ← e3] at h2
  omega
theorem RD.hd {M r tb i j a b : Int} (h : RD O M ν r tb i j a b) (hI : Inv O M ν) : Hd ν r (vl O tb i j a b) := by
  rcases h with ⟨e1, e2⟩ | ⟨e1, e2, e3, e4⟩
  · rw [e1, e2]; exact hI.1
  · rw [e1] at e4 ⊢; exact hI.2 tb i j a b e2 e3 e4
theorem RD.b {M r tb i j a b : Int} (h : RD O M ν r tb i j a b) : 0 ≤ r ∧ r < 7922 := by
  rcases h with ⟨e1, e2⟩ | ⟨e1, e2, e3, e4⟩
  · omega
  · have := pc_b e2; omega
theorem RD.mon {M r tb i j a b : Int} (h : RD O M ν r tb i j a b) (hm : Mon ν ν') : RD O M ν' r tb i j a b := by
  rcases h with e | ⟨e1, e2, e3, e4⟩
  · exact Or.inl e
  · exact Or.inr ⟨e1, e2, e3, hm r e4⟩
theorem RD.ne {M r tb i j a b q0 : Int} (h : RD O (M - 1) ν r tb i j a b) (h0 : noP (M - 1) q0) (h1 : q0 < 7921) : r ≠ q0 := by
  rcases h with ⟨e1, e2⟩ | ⟨e1, e2, e3, e4⟩
  · omega
  · rw [e1]; exact fun e => h0 tb i j a b e2 e3 e.symm
theorem BS.call {q0 M r tb i j a b : Int} {T : Tri} (h0 : noP (M - 1) q0) (h : BS O q0 M μ ν T) (hp : Pst O (M - 1) ν r ν' tb i j a b) : BS O q0 M μ ν' T ∧ Mon ν ν' ∧ RD O (M - 1) ν' r tb i j a b := by
  obtain ⟨b1, b2, b3, b4, b5, b6, b7⟩ := h
  obtain ⟨p1, p2, p3, p4, p5, p6⟩ := hp
  exact ⟨⟨b1.tr p1, p5, p4, fun q hq => p3 q (b4 q hq), p3 q0 b5, b6.sm p1 (p2 q0 h0), fun q z1 z2 => (b7 q z1 z2).tr (p2 q z2)⟩, p3, p6⟩
theorem FrQ.mon {q : Int} (h : FrQ q μ ν) : Mon μ ν := fun q' e => by rw [h.st, h.r.st6]; exact e
theorem FrA.mon (h : FrA μ ν) : Mon μ ν := fun q' e => by rw [h.sm.1, h.r.st6]; exact e
theorem BS.q {q0 M : Int} {T T' : Tri} (h0 : noP (M - 1) q0) (h1 : q0 < 7921) (h : BS O q0 M μ ν T) (hf : FrQ q0 ν ν') (hH : Hd ν' q0 T') : BS O q0 M μ ν' T' := by
  obtain ⟨b1, b2, b3, b4, b5, b6, b7⟩ := h
  refine ⟨b1.tr hf.r, ?_, ⟨b3.1.kept hf (by omega), fun tb i j a b z1 z2 z3 => ?_⟩, fun q hq => hf.mon q (b4 q hq), hf.mon q0 b5, hH, fun q z1 z2 => (b7 q z1 z2).tr (hf.sm z1)⟩
  · unfold StB
    rw [hf.r.st6]
    exact ⟨b2.1, fun q z1 z2 => by rw [hf.st]; exact b2.2 q z1 z2⟩
  · rw [hf.st, hf.r.st6] at z3
    exact (b3.2 tb i j a b z1 z2 z3).kept hf (fun e => h0 tb i j a b z1 z2 e.symm)
theorem BS.aim {q0 M : Int} {T : Tri} (h : BS O q0 M μ ν T) (hf : FrA ν ν') : BS O q0 M μ ν' T := by
  obtain ⟨b1, b2, b3, b4, b5, b6, b7⟩ := h
  refine ⟨b1.tr hf.r, ?_, ⟨b3.1.sm hf.r hf.sm, fun tb i j a b z1 z2 z3 => ?_⟩, fun q hq => hf.mon q (b4 q hq), hf.mon q0 b5, b6.sm hf.r hf.sm, fun q z1 z2 => (b7 q z1 z2).tr hf.sm⟩
  · unfold StB
    rw [hf.r.st6]
    exact ⟨b2.1, fun q z1 z2 => by rw [hf.sm.1]; exact b2.2 q z1 z2⟩
  · rw [hf.sm.1, hf.r.st6] at z3
    exact (b3.2 tb i j a b z1 z2 z3).sm hf.r hf.sm
theorem BS.more {q0 M m : Int} {T : Tri} {us : List Tri} (h : BS O q0 M μ ν T) (he : ν 27 8 = 0 ∧ ν 27 7 ≤ ν 29 q0) (hu : vL m us) : BS O q0 M μ ν (mgL T us) := by
  obtain ⟨b1, b2, b3, b4, b5, b6, b7⟩ := h
  exact ⟨b1, b2, b3, b4, b5, b6.more he.1 he.2 hu, b7⟩
theorem BS.fin {tb i j a b M : Int} (ho : okP tb i j a b) (hM : ms tb i j = M) (hI : Inv O M μ) (h : BS O (pc tb i j a b) M μ ν (vl O tb i j a b)) : Pst O M μ (pc tb i j a b) ν tb i j a b := by
  obtain ⟨b1, b2, b3, b4, b5, b6, b7⟩ := h
  refine ⟨b1, fun q hq => b7 q (hq tb i j a b ho (by omega)) (hq.le (by omega)), b4, ⟨b3.1, fun tb' i' j' a' b' z1 z2 z3 => ?_⟩, b2, Or.inr ⟨rfl, ho, by omega, b5⟩⟩
  by_cases c : ms tb' i' j' ≤ M - 1
  · exact b3.2 tb' i' j' a' b' z1 c z3
  · by_cases e : pc tb' i' j' a' b' = pc tb i j a b
    · obtain ⟨rfl, rfl, rfl, rfl, rfl⟩ := pc_inj z1 ho e
      exact b6
    · have hs := b7 _ e (own_no z1 (by omega : ms tb' i' j' = M))
      rw [hs.1, b1.st6] at z3
      exact (hI.2 tb' i' j' a' b' z1 z2 z3).sm b1 hs
theorem BS.init {q0 M : Int} (hE : EnvM μ) (hS : StB μ) (hI : Inv O M μ) (h0 : noP (M - 1) q0) (h1 : 0 ≤ q0 ∧ q0 < 7920) : BS O q0 M μ (st2 (st2 (st2 μ 28 q0 (μ 27 6)) 29 q0 0) 30 q0 1000) T0 := by
  have fr : FrR μ (st2 (st2 (st2 μ 28 q0 (μ 27 6)) 29 q0 0) 30 q0 1000) := fun k i a b c e => by
    have n1 : k ≠ 28 := by omega
    have n2 : k ≠ 29 := by omega
    have n3 : k ≠ 30 := by omega
    simp [st2, n1, n2, n3]
  have hsm : ∀ q, q ≠ q0 → sm q μ (st2 (st2 (st2 μ 28 q0 (μ 27 6)) 29 q0 0) 30 q0 1000) := fun q hq => by
    refine ⟨?_, ?_, ?_, fun c x y => ?_⟩ <;> simp [st2, hq]
  have e28 : ∀ q, (st2 (st2 (st2 μ 28 q0 (μ 27 6)) 29 q0 0) 30 q0 1000) 28 q = if q = q0 then μ 27 6 else μ 28 q := fun q => by simp [st2]
  have e6 := fr.st6
  refine ⟨fr, ⟨by rw [e6]; exact hS.1, fun q z1 z2 => ?_⟩, ⟨hI.1.sm fr (hsm _ (by omega)), fun tb i j a b z1 z2 z3 => ?_⟩, fun q hq => ?_, ?_, ⟨?_, ?_, ?_⟩, fun q z1 _ => hsm q z1⟩
  · rw [e28, e6]
    have := hS.2 q z1 z2
    have := hS.1
    split <;> omega
  · have hne : pc tb i j a b ≠ q0 := fun e => h0 tb i j a b z1 z2 e.symm
    rw [e28, if_neg hne, e6] at z3
    exact (hI.2 tb i j a b z1 (by omega) z3).sm fr (hsm _ hne)
  · rw [e28, e6]
    split
    · rfl
    · exact hq
  · rw [e28, e6, if_pos rfl]
  · have := hE.1
    simp [st2, T0, cap]
    omega
  · intro _; simp [st2]
  · intro _
    exact ⟨fun _ => by simp [st2], fun z => absurd rfl z⟩
theorem s_open {q : Int} (hq : 0 ≤ q ∧ q < 7922) (h : PV' (st2 (st2 (st2 μ 28 q (μ 27 6)) 29 q 0) 30 q 1000)) : CV G l (d + 1) mX5_open [xr G 27, xi q] μ PV' := by
  apply E_X5_open
  exact ⟨hq, h⟩
theorem s_isOpen {q : Int} (hS : StB μ) (hq : 0 ≤ q ∧ q < 7922) (h : ∀ r, bit r (μ 28 q = μ 27 6) → P r μ) : CI G l (d + 1) mX5_isOpen [xr G 27, xi q] μ P := by
  have h1 := hS.1
  have h2 := hS.2 q hq.1 hq.2
  apply E_X5_isOpen
  exact ⟨hq, by omega, by omega, fun z => h 0 (Or.inr ⟨rfl, z⟩), fun z => h 1 (Or.inl ⟨rfl, z⟩)⟩
/-- if nothing is offered -/
theorem mgL_0 : ∀ (us : List Tri) {T : Tri}, (∀ u ∈ us, u.1 = 0) → mgL T us = T
  | [], T, _ => rfl
  | u :: us, T, h => by
    rw [mgL_cons, mg_0 _ _ (h u (List.mem_cons_self ..))]
    exact mgL_0 us (fun x hx => h x (List.mem_cons_of_mem _ hx))
theorem jnC_0 {A R : xV} {s i j a b k : Int} (h : ∀ c, a < c → c < b → (A s i k a c).1 = 0) : ∀ n : Nat, a < b - n → ∀ u ∈ oJnC O A R s i j a b k n, u.1 = 0
  | 0, _, u, hu => nomatch hu
  | n + 1, hn, u, hu => by
    rw [oJnC] at hu
    rcases List.mem_append.mp hu with q | q
    · have z := h (b - (n + 1 : Nat)) (by omega) (by omega)
      unfold oJn jn at q
      simp only [List.mem_cons, List.not_mem_nil, or_false] at q
      rcases q with q | q
      · rw [q]; show _ * _ = (0 : Int); rw [z, Int.zero_mul]
      · rw [q]; show _ * (_ * _) = (0 : Int); rw [z, Int.zero_mul, Int.mul_zero]
    · exact jnC_0 h n (by omega) u q
theorem no_piece {R : xV} {s i j a b : Int} (hne : i ≠ j) (h1 : ∀ pl, 0 ≤ pl → pl < 7 → ¬ isSg α t (cwd α tl i) pl ∧ ¬ isSg α t (cwd α tl j) pl) (h2 : 2 ≤ j - i → ¬ isSg α t (cwd α tl (j - 1)) 7 ∧ ¬ isSg α t (cwd α tl (i + 1)) 8) : pieceEq (Orc α tl w t) R s i j a b = T0 := by
  unfold pieceEq
  rw [if_neg hne]
  have es : ∀ S k, (Orc α tl w t).2.2.2.1 S k = ind (isSg α t (cwd α tl S) k) := fun _ _ => rfl
  have sg : ∀ S f e, (∀ pl, 0 ≤ pl → pl < 7 → ¬ isSg α t (cwd α tl S) pl) → ∀ u ∈ oSgd (Orc α tl w t) s a b S f e, u.1 = 0 := by
    intro S f e hS u hu
    unfold oSgd at hu
    rcases List.mem_append.mp hu with q | q
    · simp only [List.mem_cons, List.not_mem_nil, or_false, es] at q
      rcases q with q | q | q | q <;> rw [q] <;> show ind _ * _ = (0 : Int) <;> rw [ind_f (hS _ (by omega) (by omega)), Int.zero_mul]
    · by_cases c : f = e
      · rw [if_pos c] at q
        simp only [List.mem_cons, List.not_mem_nil, or_false, es] at q
        rcases q with q | q | q | q <;> rw [q] <;> show ind _ * _ = (0 : Int) <;> rw [ind_f (hS _ (by omega) (by omega)), Int.zero_mul]
      · rw [if_neg c] at q
        exact nomatch q
  have tr : ∀ S f e, ¬ isSg α t (cwd α tl S) 4 → (oTrn (Orc α tl w t) R s a b S f e).1 = 0 := by
    intro S f e hS
    show (Orc α tl w t).2.2.2.1 S 4 * _ = (0 : Int)
    rw [es, ind_f hS, Int.zero_mul]
  apply mgL_0
  intro u hu
  rcases List.mem_append.mp hu with q | q
  · exact sg _ _ _ (fun pl a b => (h1 pl a b).1) u q
  · rcases List.mem_append.mp q with q | q
    · exact sg _ _ _ (fun pl a b => (h1 pl a b).2) u q
    · rcases List.mem_cons.mp q with q | q
      · rw [q]; exact tr _ _ _ (h1 4 (by omega) (by omega)).1
      · rcases List.mem_cons.mp q with q | q
        · rw [q]; exact tr _ _ _ (h1 4 (by omega) (by omega)).2
        · have e1 : oIn (Orc α tl w t) R s i j a b = [] := by
            unfold oIn
            rw [if_neg]
            intro z
            exact z.2 (by rw [es]; exact ind_f (h2 z.1).1)
          have e2 : oAbout (Orc α tl w t) R s i j a b = [] := by
            unfold oAbout
            rw [if_neg]
            intro z
            exact z.2 (by rw [es]; exact ind_f (h2 z.1).2)
          rw [e1, e2] at q
          exact nomatch q
/-- the words are all different -/
def wfD (α : xMem) : Prop := ∀ v v', 0 ≤ v → v < α 74 20 → 0 ≤ v' → v' < α 74 20 → α 77 v = α 77 v' → (∀ i, 0 ≤ i → i < α 77 v → α 76 (10 * v + i) = α 76 (10 * v' + i)) → v = v'
theorem cnt_le1 {a : Int} {p : Int → Prop} : ∀ n : Nat, (∀ j k : Int, 0 ≤ j → j < k → k < n → (α 79 j = a ∧ α 81 j ≤ t ∧ p (α 80 j)) → (α 79 k = a ∧ α 81 k ≤ t ∧ p (α 80 k)) → False) → cntN α t a p n ≤ 1
  | 0, _ => by rw [cntN]; decide
  | n + 1, h => by
    rw [cntN]
    by_cases c : α 79 n = a ∧ α 81 n ≤ t ∧ p (α 80 n)
    · have z := cnt_skip (α := α) (t := t) (a := a) (p := p) (lo := 0) n (fun j j0 j1 hj => h j n (by omega) (by omega) (by omega) hj c)
      rw [Nat.zero_add] at z
      rw [z, ind_t c, cntN]
      decide
    · rw [ind_f c]
      have := cnt_le1 n (fun j k a b e => h j k a b (by omega))
      omega
theorem cnt_exact {a n : Int} {F : Int → Int} (hm : wfM α) (hD : wfD α) : cntN α t a (fun v => fit α v 0 0 F n) (α 74 21).toNat ≤ 1 := by
  refine cnt_le1 _ (fun j k j0 jk k1 hj hk => ?_)
  have hk1 : k < α 74 21 := by have := hm.1; omega
  obtain ⟨x1, x2, -⟩ := hm.2 j j0 (by omega)
  obtain ⟨y1, y2, y3⟩ := hm.2 k (by omega) hk1
  refine y3 j j0 jk (by rw [hj.1, hk.1]) (hD _ _ x2.1 x2.2 y2.1 y2.2 (by rw [hj.2.2.1, hk.2.2.1]) (fun i i0 i1 => ?_))
  have e1 := hj.2.2.2 i i0 (by have := hj.2.2.1; omega)
  have e2 := hk.2.2.2 i i0 (by have := hj.2.2.1; omega)
  rw [show (0 : Int) + i = i by omega] at e1 e2
  rw [e1, e2]
end SpecRec3
