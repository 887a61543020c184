/-! the model: shuffles, ends, hidden ones -/
section SpecMTest2
variable {G : xG} {l : Launch} {d : Nat} {μ ν α : xMem} {P : Int → xMem → Prop} {PV' : xMem → Prop} {tl w t : Int}
def clW (α : xMem) (tl : Int) : Prop := (2 ≤ α 87 tl ∧ α 87 tl ≤ 8) ∧ ∀ p, 0 ≤ p → p < α 87 tl → 0 ≤ cwd α tl p ∧ cwd α tl p < α 74 20
theorem MR.cl (h : MR α tl w t μ) : clW α tl := ⟨h.2.2.2.1, fun p a b => (h.2.2.2.2.1 p a b).2⟩
theorem ct_len (hw : wfW α) (hc : clW α tl) {p : Int} (h0 : 0 ≤ p) (h1 : p < α 87 tl) : 1 ≤ α 77 (cwd α tl p) ∧ α 77 (cwd α tl p) ≤ 10 := (hw.2 _ (hc.2 p h0 h1).1 (hc.2 p h0 h1).2).1
theorem ct_mono (hw : wfW α) (hc : clW α tl) : ∀ (n a : Nat), ((a + n : Nat) : Int) ≤ α 87 tl → stN α tl a + n ≤ stN α tl (a + n) ∧ stN α tl (a + n) ≤ stN α tl a + 10 * n
  | 0, a, _ => by simp
  | n + 1, a, h => by
    have h1 := ct_mono hw hc n a (by omega)
    have h2 := ct_len hw hc (p := ((a + n : Nat) : Int)) (by omega) (by omega)
    have e : stN α tl (a + (n + 1)) = stN α tl (a + n) + α 77 (cwd α tl ((a + n : Nat) : Int)) := rfl
    rw [e]
    omega
theorem ct_le (hw : wfW α) (hc : clW α tl) {p q : Int} (h0 : 0 ≤ p) (h1 : p ≤ q) (h2 : q ≤ α 87 tl) : stF α tl p + (q - p) ≤ stF α tl q ∧ stF α tl q ≤ stF α tl p + 10 * (q - p) := by
  have := ct_mono hw hc (q - p).toNat p.toNat (by omega)
  rw [show p.toNat + (q - p).toNat = q.toNat by omega] at this
  unfold stF
  omega
theorem ct_tx (hw : wfW α) (hc : clW α tl) {p k : Int} (h0 : 0 ≤ p) (h1 : p < α 87 tl) (k0 : 0 ≤ k) (k1 : k < α 77 (cwd α tl p)) : txF α tl (stF α tl p + k) = α 76 (10 * cwd α tl p + k) := by
  have e : ((p.toNat : Nat) : Int) = p := by omega
  have := stN_tx (α := α) (tl := tl) (α 87 tl).toNat p.toNat k (by omega) k0 (by rw [e]; exact k1) (fun q hq => by have := ct_len hw hc (p := q) (by omega) (by omega); omega)
  rw [e] at this
  exact this
theorem ct_ab (hw : wfW α) (hc : clW α tl) : ∀ (n : Nat) (p : Int) (m : Int), 0 ≤ p → p + n ≤ α 87 tl → stF α tl p ≤ m → m < stF α tl (p + n) → 97 ≤ txF α tl m ∧ txF α tl m ≤ 122
  | 0, p, m, _, _, h1, h2 => by
    rw [show p + ((0 : Nat) : Int) = p by omega] at h2
    omega
  | n + 1, p, m, h0, hp, h1, h2 => by
    rcases (show m < stF α tl (p + n) ∨ stF α tl (p + n) ≤ m by omega) with c | c
    · exact ct_ab hw hc n p m h0 (by omega) h1 c
    · rw [show p + ((n + 1 : Nat) : Int) = p + n + 1 by omega, st_succ (by omega)] at h2
      have := ct_tx hw hc (p := p + n) (k := m - stF α tl (p + n)) (by omega) (by omega) (by omega) (by omega)
      rw [show stF α tl (p + n) + (m - stF α tl (p + n)) = m by omega] at this
      rw [this]
      have hb := hc.2 (p + n) (by omega) (by omega)
      exact (hw.2 _ hb.1 hb.2).2 _ (by omega) (by omega)
theorem ct_sl (hw : wfW α) (hc : clW α tl) {f e m : Int} (h0 : 0 ≤ f) (h1 : f ≤ e) (h2 : e < α 87 tl) (m0 : 0 ≤ m) (m1 : m < stF α tl (e + 1) - stF α tl f) : 97 ≤ txF α tl (stF α tl f + m) ∧ txF α tl (stF α tl f + m) ≤ 122 := by
  refine ct_ab hw hc (e + 1 - f).toNat f (stF α tl f + m) h0 (by omega) (by omega) ?_
  rw [show f + (((e + 1 - f).toNat : Nat) : Int) = e + 1 by omega]
  omega
/-- the letters of the words f to e -/
def Rst (α : xMem) (tl f e : Int) (μ : xMem) : Prop := μ 74 45 = stF α tl (e + 1) - stF α tl f ∧ ∀ m, 0 ≤ m → m < stF α tl (e + 1) - stF α tl f → μ 104 m = txF α tl (stF α tl f + m)
def FmT (μ ν : xMem) : Prop := ∀ k i, k ≠ 104 → (k ≠ 74 ∨ i ≠ 45) → ν k i = μ k i
theorem s_takeRest {f e : Int} (hw : wfW α) (hR : MR α tl w t μ) (h0 : 0 ≤ f) (h1 : f ≤ e) (h2 : e < α 87 tl) (h : ∀ ν, Rst α tl f e ν → FmT μ ν → PV' ν) : CV G l (d + 1) mX12_takeRest [xr G 74, xi f, xi e] μ PV' := by
  have hc := hR.cl
  have hcm := hc.1
  have hn := hw.1
  apply E_X12_takeRest
  have main : ∀ (N : Nat) (p : Int) (ν : xMem), p + N = e + 1 → f ≤ p → ν 74 45 = stF α tl p - stF α tl f → (∀ m, 0 ≤ m → m < stF α tl p - stF α tl f → ν 104 m = txF α tl (stF α tl f + m)) → FmT μ ν → K_X12_takeRest_7 G l (d + 1) PV' e p ν := by
    intro N
    induction N with
    | zero =>
      intro p ν hp hp0 hz hi hf
      apply B_X12_takeRest_7
      have ep : p = e + 1 := by omega
      rw [ep] at hz hi
      exact ⟨by omega, by omega, fun _ => h ν ⟨hz, hi⟩ hf, fun z => by omega⟩
    | succ N ih =>
      intro p ν hp hp0 hz hi hf
      have hl := ct_len hw hc (p := p) (by omega) (by omega)
      have hb := hc.2 p (by omega) (by omega)
      have st1 := st_succ (α := α) (tl := tl) (p := p) (by omega)
      have bd := ct_le hw hc (p := f) (q := p) h0 hp0 (by omega)
      have inner : ∀ (N2 : Nat) (k : Int) (ν : xMem), k + N2 = α 77 (cwd α tl p) → 0 ≤ k → ν 74 45 = stF α tl p - stF α tl f + k → (∀ m, 0 ≤ m → m < stF α tl p - stF α tl f + k → ν 104 m = txF α tl (stF α tl f + m)) → FmT μ ν → K_X12_takeRest_15 G l (d + 1) PV' e p k ν := by
        intro N2
        induction N2 with
        | zero =>
          intro k ν hk k0 hz hi hf
          have e100 : ν 100 p = cwd α tl p := by rw [hf 100 p (by decide) (Or.inl (by decide))]; exact (hR.2.2.2.2.1 p (by omega) (by omega)).1
          have e77 : ν 77 (cwd α tl p) = α 77 (cwd α tl p) := by rw [hf 77 _ (by decide) (Or.inl (by decide))]; exact hR.1.1 77 _ (by decide) (by decide)
          apply B_X12_takeRest_15
          rw [e100, e77]
          refine ⟨by omega, by omega, by omega, by omega, fun _ => ih (p + 1) ν (by omega) (by omega) (by rw [hz, st1]; omega) (fun m m0 m1 => hi m m0 (by rw [st1] at m1; omega)) hf, fun z => by omega⟩
        | succ N2 ih2 =>
          intro k ν hk k0 hz hi hf
          have e100 : ν 100 p = cwd α tl p := by rw [hf 100 p (by decide) (Or.inl (by decide))]; exact (hR.2.2.2.2.1 p (by omega) (by omega)).1
          have e77 : ν 77 (cwd α tl p) = α 77 (cwd α tl p) := by rw [hf 77 _ (by decide) (Or.inl (by decide))]; exact hR.1.1 77 _ (by decide) (by decide)
          have e76 : ν 76 (10 * cwd α tl p + k) = txF α tl (stF α tl p + k) := by
            rw [hf 76 _ (by decide) (Or.inl (by decide)), hR.1.1 76 _ (by decide) (by decide), ct_tx hw hc (by omega) (by omega) k0 (by omega)]
          apply B_X12_takeRest_15
          rw [e100, e77, e76, hz]
          refine ⟨by omega, by omega, by omega, by omega, fun z => by omega, fun _ => ⟨by omega, by omega, ih2 (k + 1) _ (by omega) (by omega) (by simp [st2]; omega) (fun m m0 m1 => ?_) (fun k i a b => by rw [← hf k i a b]; unfold st2; grind)⟩⟩
          have e : (st2 (st2 ν 104 (stF α tl p - stF α tl f + k) (txF α tl (stF α tl p + k))) 74 45 (stF α tl p - stF α tl f + k + 1)) 104 m = if m = stF α tl p - stF α tl f + k then txF α tl (stF α tl p + k) else ν 104 m := by simp [st2]
          rw [e]
          by_cases c : m = stF α tl p - stF α tl f + k
          · rw [if_pos c, c]
            congr 1
            omega
          · rw [if_neg c]; exact hi m m0 (by omega)
      apply B_X12_takeRest_7
      exact ⟨by omega, by omega, fun z => by omega, fun _ => inner (α 77 (cwd α tl p)).toNat 0 ν (by omega) (by omega) (by omega) (fun m m0 m1 => hi m m0 (by omega)) hf⟩
  exact main (e + 1 - f).toNat f _ (by omega) (by omega) (by simp [st2]) (fun m m0 m1 => by omega) (fun k i a b => by unfold st2; grind)
theorem md_Run.kT {F : Int → Int} {n : Int} (h : md_Run μ F n) (hf : FmT μ ν) : md_Run ν F n := ⟨by rw [hf 74 43 (by decide) (by decide)]; exact h.1, h.2.1, fun m a b => by rw [hf 102 m (by decide) (Or.inl (by decide))]; exact h.2.2 m a b⟩
theorem FmT.s (h : FmT μ ν) : FmS μ ν := fun k i a b => h k i (by omega) (by omega)
theorem s_mShuffled {F : Int → Int} {n f e : Int} (hw : wfW α) (hR : MR α tl w t μ) (hF : md_Run μ F n) (h0 : 0 ≤ f) (h1 : f ≤ e) (h2 : e < α 87 tl) (h : ∀ r ν, FmT μ ν → bit r (isShf α tl F f e n) → P r ν) : CI G l (d + 2) mX12_isShuffled [xr G 74, xi f, xi e] μ P := by
  have hc := hR.cl
  have hcm := hc.1
  apply E_X12_isShuffled
  refine s_takeRest hw hR h0 h1 h2 (fun ν hT hf => ?_)
  obtain ⟨t1, t2⟩ := hT
  obtain ⟨r1, r2, r3⟩ := hF.kT hf
  have bd := ct_le hw hc (p := f) (q := e + 1) h0 (by omega) (by omega)
  rw [t1, r1]
  refine ⟨by omega, by omega, fun z => ?_, fun z => h 0 ν hf (Or.inr ⟨rfl, fun q => z q.1⟩)⟩
  have let104 : ∀ k, 0 ≤ k → k < n → ν 104 k = txF α tl (stF α tl f + k) ∧ 97 ≤ txF α tl (stF α tl f + k) ∧ txF α tl (stF α tl f + k) ≤ 122 := fun k k0 k1 => ⟨t2 k k0 (by omega), ct_sl hw hc h0 h1 h2 k0 (by omega)⟩
  have last : (∀ c, 97 ≤ c → c ≤ 122 → cnF (fun m => txF α tl (stF α tl f + m)) c n.toNat = cnF F c n.toNat) → K_X12_isShuffled_109 G l (d + 2) P 1 0 ν := by
    intro hcn
    have main : ∀ (N : Nat) (k v : Int), k + N = n → 0 ≤ k → (v = 0 ∨ v = 1) → (v = 0 ↔ ∃ m, 0 ≤ m ∧ m < k ∧ txF α tl (stF α tl f + m) ≠ F m) → K_X12_isShuffled_109 G l (d + 2) P v k ν := by
      intro N
      induction N with
      | zero =>
        intro k v hk k0 hv hi
        apply B_X12_isShuffled_109
        rw [r1]
        have ek : k = n := by omega
        rw [ek] at hi
        exact ⟨by omega, by omega, fun _ => ⟨by omega, fun y => h 0 ν hf (Or.inr ⟨rfl, fun q => y (hi.mpr q.2.2)⟩), fun y => h 1 ν hf (Or.inl ⟨rfl, z, hcn, hi.mp y⟩)⟩, fun y => by omega⟩
      | succ N ih =>
        intro k v hk k0 hv hi
        obtain ⟨x1, x2, x3⟩ := let104 k k0 (by omega)
        obtain ⟨y1, y2, y3⟩ := r3 k k0 (by omega)
        apply B_X12_isShuffled_109
        rw [r1, x1, y1]
        refine ⟨by omega, by omega, fun y => by omega, fun _ => ⟨by omega, fun y => ih (k + 1) 0 (by omega) (by omega) (Or.inl rfl) ⟨fun _ => ?_, fun _ => rfl⟩, fun y => ⟨by omega, by omega, by omega, by omega, fun q => ih (k + 1) 0 (by omega) (by omega) (Or.inl rfl) ⟨fun _ => ⟨k, k0, by omega, fun e => q e.symm⟩, fun _ => rfl⟩, fun q => ih (k + 1) 1 (by omega) (by omega) (Or.inr rfl) ⟨fun e => absurd e (by decide), fun ⟨m, m0, m1, m2⟩ => ?_⟩⟩⟩⟩
        · obtain ⟨m, m0, m1, m2⟩ := hi.mp y
          exact ⟨m, m0, by omega, m2⟩
        · rcases (show m < k ∨ m = k by omega) with c | c
          · exact absurd (hi.mpr ⟨m, m0, c, m2⟩) y
          · rw [c] at m2; exact absurd q.symm m2
    exact main n.toNat 0 1 (by omega) (by omega) (Or.inr rfl) ⟨fun e => absurd e (by decide), fun ⟨m, m0, m1, _⟩ => by omega⟩
  have outer : ∀ (N : Nat) (c : Int), c + N = 123 → 97 ≤ c → (∀ x, 97 ≤ x → x < c → cnF (fun m => txF α tl (stF α tl f + m)) x n.toNat = cnF F x n.toNat) → K_X12_isShuffled_25 G l (d + 2) P 1 c ν := by
    intro N
    induction N with
    | zero =>
      intro c hc' c0 hi
      apply B_X12_isShuffled_25
      exact ⟨by omega, fun _ => last (fun x x0 x1 => hi x x0 (by omega)), fun y => by omega⟩
    | succ N ih =>
      intro c hc' c0 hi
      have inner : ∀ (N2 k : Nat), (k : Int) + N2 = n → K_X12_isShuffled_38 G l (d + 2) P 1 c (cnF F c k - cnF (fun m => txF α tl (stF α tl f + m)) c k) (k : Int) ν := by
        intro N2
        induction N2 with
        | zero =>
          intro k hk
          have n1 := cnF_nn (F := F) (c := c) k
          have n2 := cnF_nn (F := fun m => txF α tl (stF α tl f + m)) (c := c) k
          have ek : n.toNat = k := by omega
          apply B_X12_isShuffled_38
          rw [r1]
          refine ⟨by omega, by omega, fun _ => ⟨by omega, fun y => ih (c + 1) (by omega) (by omega) (fun x x0 x1 => ?_), fun y => h 0 ν hf (Or.inr ⟨rfl, fun q => y ?_⟩)⟩, fun y => by omega⟩
          · rcases (show x < c ∨ x = c by omega) with q | q
            · exact hi x x0 q
            · rw [q, ek]; omega
          · have := q.2.1 c c0 (by omega)
            rw [ek] at this
            omega
        | succ N2 ih2 =>
          intro k hk
          obtain ⟨x1, x2, x3⟩ := let104 k (by omega) (by omega)
          obtain ⟨y1, y2, y3⟩ := r3 k (by omega) (by omega)
          have n1 := cnF_nn (F := F) (c := c) k
          have n2 := cnF_nn (F := fun m => txF α tl (stF α tl f + m)) (c := c) k
          have nx := ih2 (k + 1) (by omega)
          rw [cnF, cnF, show ((k + 1 : Nat) : Int) = (k : Int) + 1 by omega] at nx
          have go : ∀ s, s = ind (F k = c) → K_X12_isShuffled_66 G l (d + 2) P 1 c (k : Int) (cnF F c k - cnF (fun m => txF α tl (stF α tl f + m)) c k) s ν := by
            intro s hs
            apply B_X12_isShuffled_66
            rw [x1]
            refine ⟨by omega, by omega, by omega, fun q => ?_, fun q => ?_⟩
            · rw [ind_f q, ← hs] at nx
              have e : cnF F c k + s - (cnF (fun m => txF α tl (stF α tl f + m)) c k + 0) = cnF F c k - cnF (fun m => txF α tl (stF α tl f + m)) c k + (s - 0) := by omega
              rw [e] at nx
              exact nx
            · rw [ind_t q, ← hs] at nx
              have e : cnF F c k + s - (cnF (fun m => txF α tl (stF α tl f + m)) c k + 1) = cnF F c k - cnF (fun m => txF α tl (stF α tl f + m)) c k + (s - 1) := by omega
              rw [e] at nx
              exact nx
          apply B_X12_isShuffled_38
          rw [r1, y1]
          exact ⟨by omega, by omega, fun y => by omega, fun _ => ⟨by omega, by omega, by omega, fun q => go 0 (ind_f q).symm, fun q => go 1 (ind_t q).symm⟩⟩
      apply B_X12_isShuffled_25
      exact ⟨by omega, fun y => by omega, fun _ => inner n.toNat 0 (by omega)⟩
  exact outer 26 97 (by omega) (by omega) (fun x x0 x1 => by omega)
theorem s_areEnds {F : Int → Int} {n f e b : Int} (hw : wfW α) (hR : MR α tl w t μ) (hF : md_Run μ F n) (h0 : 0 ≤ f) (h1 : f ≤ e) (h2 : e < α 87 tl) (hb : b = 0 ∨ b = 1) (h : ∀ r, bit r (e - f + 1 = n ∧ ∀ m, 0 ≤ m → m < n → α 76 (10 * cwd α tl (f + m) + (if b = 0 then α 77 (cwd α tl (f + m)) - 1 else 0)) = F m) → P r μ) : CI G l (d + 1) mX12_areEnds [xr G 74, xi f, xi e, xi b] μ P := by
  have hc := hR.cl
  have hcm := hc.1
  have hn := hw.1
  obtain ⟨r1, r2, r3⟩ := hF
  apply E_X12_areEnds
  rw [r1]
  refine ⟨by omega, by omega, fun z => ?_, fun z => h 0 (Or.inr ⟨rfl, fun q => z (by have := q.1; omega)⟩)⟩
  have main : ∀ (N : Nat) (p : Int), p + N = e + 1 → f ≤ p → (∀ m, 0 ≤ m → m < p - f → α 76 (10 * cwd α tl (f + m) + (if b = 0 then α 77 (cwd α tl (f + m)) - 1 else 0)) = F m) → K_X12_areEnds_17 G l (d + 1) P f e b p μ := by
    intro N
    induction N with
    | zero =>
      intro p hp p0 hi
      apply B_X12_areEnds_17
      exact ⟨by omega, by omega, fun _ => h 1 (Or.inl ⟨rfl, by omega, fun m m0 m1 => hi m m0 (by omega)⟩), fun y => by omega⟩
    | succ N ih =>
      intro p hp p0 hi
      obtain ⟨w1, w2, w3⟩ := hR.2.2.2.2.1 p (by omega) (by omega)
      have hl := hw.2 _ w2 w3
      obtain ⟨y1, y2, y3⟩ := r3 (p - f) (by omega) (by omega)
      have go : ∀ x, x = (if b = 0 then α 77 (cwd α tl p) - 1 else 0) → K_X12_areEnds_58 G l (d + 1) P f e b p (10 * cwd α tl p) x μ := by
        intro x hx
        have xb : 0 ≤ x ∧ x < α 77 (cwd α tl p) := by rw [hx]; split <;> omega
        have hx2 := hl.2 x xb.1 xb.2
        apply B_X12_areEnds_58
        rw [hR.1.1 76 _ (by decide) (by decide), y1]
        refine ⟨by omega, by omega, by omega, by omega, fun c => ih (p + 1) (by omega) (by omega) (fun m m0 m1 => ?_), fun c => h 0 (Or.inr ⟨rfl, fun q => c ?_⟩)⟩
        · rcases (show m < p - f ∨ m = p - f by omega) with q | q
          · exact hi m m0 q
          · rw [q, show f + (p - f) = p by omega, ← hx]; exact c
        · have := q.2 (p - f) (by omega) (by omega)
          rw [show f + (p - f) = p by omega, ← hx] at this
          exact this
      apply B_X12_areEnds_17
      rw [w1, hR.1.1 77 _ (by decide) (by decide)]
      exact ⟨by omega, by omega, fun y => by omega, fun _ => ⟨by omega, by omega, fun y => ⟨by omega, go _ (by rw [if_pos y])⟩, fun y => go _ (by rw [if_neg y])⟩⟩
  exact main (e + 1 - f).toNat f (by omega) (by omega) (fun m m0 m1 => by omega)
theorem s_mHeads {F : Int → Int} {n f e : Int} (hw : wfW α) (hR : MR α tl w t μ) (hF : md_Run μ F n) (h0 : 0 ≤ f) (h1 : f ≤ e) (h2 : e < α 87 tl) (h : ∀ r, bit r (isHds α tl F f e n) → P r μ) : CI G l (d + 1) mX12_areEnds [xr G 74, xi f, xi e, xi 1] μ P := by
  refine s_areEnds hw hR hF h0 h1 h2 (Or.inr rfl) (fun r hr => h r ?_)
  unfold isHds
  simp only [if_neg (show ¬ (1 : Int) = 0 by decide), Int.add_zero] at hr
  exact hr
theorem s_mTails {F : Int → Int} {n f e : Int} (hw : wfW α) (hR : MR α tl w t μ) (hF : md_Run μ F n) (h0 : 0 ≤ f) (h1 : f ≤ e) (h2 : e < α 87 tl) (h : ∀ r, bit r (isTls α tl F f e n) → P r μ) : CI G l (d + 1) mX12_areEnds [xr G 74, xi f, xi e, xi 0] μ P := by
  refine s_areEnds hw hR hF h0 h1 h2 (Or.inl rfl) (fun r hr => h r ?_)
  unfold isTls
  simp only [if_pos] at hr
  exact hr
theorem s_mHidden {F : Int → Int} {n f e : Int} (hw : wfW α) (hR : MR α tl w t μ) (hF : md_Run μ F n) (h0 : 0 ≤ f) (h1 : f ≤ e) (h2 : e < α 87 tl) (h : ∀ r ν, FmT μ ν → bit r (isHid α tl F f e n) → P r ν) : CI G l (d + 2) mX12_isHidden [xr G 74, xi f, xi e] μ P := by
  have hc := hR.cl
  have hcm := hc.1
  apply E_X12_isHidden
  refine ⟨by omega, by omega, fun z => s_takeRest hw hR h0 h1 h2 (fun ν hT hf => ?_), fun z => h 0 μ (fun _ _ _ _ => rfl) (Or.inr ⟨rfl, fun q => by have := q.1; omega⟩)⟩
  obtain ⟨t1, t2⟩ := hT
  obtain ⟨r1, r2, r3⟩ := hF.kT hf
  have hR' := hR.kept hf.s
  have bd := ct_le hw hc (p := f) (q := e + 1) h0 (by omega) (by omega)
  obtain ⟨w1, w2, w3⟩ := hR'.2.2.2.2.1 f (by omega) (by omega)
  obtain ⟨u1, u2, u3⟩ := hR'.2.2.2.2.1 e (by omega) (by omega)
  have l1 := ct_len hw hc (p := f) (by omega) (by omega)
  have l2 := ct_len hw hc (p := e) (by omega) (by omega)
  have s1 := st_succ (α := α) (tl := tl) (p := f) h0
  have s2 := st_succ (α := α) (tl := tl) (p := e) (by omega)
  have bd2 := ct_le hw hc (p := f + 1) (q := e) (by omega) (by omega) (by omega)
  have hn := hw.1
  rw [w1, u1, hR'.1.1 77 _ (by decide) (by decide), hR'.1.1 77 _ (by decide) (by decide), t1]
  refine ⟨by omega, by omega, by omega, by omega, ?_⟩
  have main : ∀ (N : Nat) (s : Int), s + N = α 77 (cwd α tl f) → 1 ≤ s → (∀ x, 1 ≤ x → x < s → ¬ (stF α tl e - stF α tl f ≤ x + n - 1 ∧ x + n - 1 < stF α tl (e + 1) - stF α tl f - 1 ∧ ∀ m, 0 ≤ m → m < n → txF α tl (stF α tl f + (x + m)) = F m)) → K_X12_isHidden_46 G l (d + 2) P (α 77 (cwd α tl f)) (stF α tl (e + 1) - stF α tl f - α 77 (cwd α tl e)) s ν := by
    intro N
    induction N with
    | zero =>
      intro s hs s0 hi
      apply B_X12_isHidden_46
      refine ⟨by omega, by omega, fun _ => h 0 ν hf (Or.inr ⟨rfl, fun ⟨_, x, x1, x2, x3, x4, x5⟩ => hi (α 77 (cwd α tl f) - x) (by omega) (by omega) ⟨by omega, by omega, fun m m0 m1 => ?_⟩⟩), fun y => by omega⟩
      rw [← x5 m m0 m1]
      congr 1
      omega
    | succ N ih =>
      intro s hs s0 hi
      have nx : ¬ (stF α tl e - stF α tl f ≤ s + n - 1 ∧ s + n - 1 < stF α tl (e + 1) - stF α tl f - 1 ∧ ∀ m, 0 ≤ m → m < n → txF α tl (stF α tl f + (s + m)) = F m) → K_X12_isHidden_46 G l (d + 2) P (α 77 (cwd α tl f)) (stF α tl (e + 1) - stF α tl f - α 77 (cwd α tl e)) (s + 1) ν := by
        intro hh
        refine ih (s + 1) (by omega) (by omega) (fun x x0 x1 => ?_)
        rcases (show x < s ∨ x = s by omega) with q | q
        · exact hi x x0 q
        · rw [q]; exact hh
      apply B_X12_isHidden_46
      rw [r1, t1]
      refine ⟨by omega, by omega, fun y => by omega, fun y0 => ⟨by omega, by omega, fun y => nx (fun q => by omega), fun y => ⟨by omega, fun y2 => ?_, fun y2 => nx (fun q => by omega)⟩⟩⟩
      have inner : ∀ (N2 : Nat) (k v : Int), k + N2 = n → 0 ≤ k → (v = 0 ∨ v = 1) → (v = 1 ↔ ∀ m, 0 ≤ m → m < k → txF α tl (stF α tl f + (s + m)) = F m) → K_X12_isHidden_90 G l (d + 2) P (α 77 (cwd α tl f)) (stF α tl (e + 1) - stF α tl f - α 77 (cwd α tl e)) s v k ν := by
        intro N2
        induction N2 with
        | zero =>
          intro k v hk k0 hv hi2
          have ek : k = n := by omega
          rw [ek] at hi2
          apply B_X12_isHidden_90
          rw [r1]
          refine ⟨by omega, by omega, fun _ => ⟨by omega, fun q => nx (fun q2 => ?_), fun q => h 1 ν hf (Or.inl ⟨rfl, by omega, α 77 (cwd α tl f) - s, by omega, by omega, by omega, by omega, fun m m0 m1 => ?_⟩)⟩, fun q => by omega⟩
          · have := hi2.mpr q2.2.2
            omega
          · rw [← hi2.mp (by omega) m m0 m1]
            congr 1
            omega
        | succ N2 ih2 =>
          intro k v hk k0 hv hi2
          obtain ⟨y1, y3, y4⟩ := r3 k k0 (by omega)
          have x1 : ν 104 (s + k) = txF α tl (stF α tl f + (s + k)) := t2 (s + k) (by omega) (by omega)
          have x2 := ct_sl hw hc h0 h1 h2 (m := s + k) (by omega) (by omega)
          apply B_X12_isHidden_90
          rw [r1, x1, y1]
          refine ⟨by omega, by omega, fun q => by omega, fun _ => ⟨by omega, fun q => ih2 (k + 1) 0 (by omega) (by omega) (Or.inl rfl) ⟨fun q2 => absurd q2 (by decide), fun q2 => ?_⟩, fun q => ⟨by omega, by omega, by omega, by omega, fun q3 => ih2 (k + 1) 0 (by omega) (by omega) (Or.inl rfl) ⟨fun q2 => absurd q2 (by decide), fun q2 => absurd (q2 k k0 (by omega)) q3⟩, fun q3 => ih2 (k + 1) 1 (by omega) (by omega) (Or.inr rfl) ⟨fun _ m m0 m1 => ?_, fun _ => rfl⟩⟩⟩⟩
          · have := hi2.mpr (fun m m0 m1 => q2 m m0 (by omega))
            omega
          · rcases (show m < k ∨ m = k by omega) with c | c
            · exact hi2.mp (by omega) m m0 c
            · rw [c]; exact q3
      exact inner n.toNat 0 1 (by omega) (by omega) (Or.inr rfl) ⟨fun _ m m0 m1 => by omega, fun _ => rfl⟩
  exact main (α 77 (cwd α tl f) - 1).toNat 1 (by omega) (by omega) (fun x x0 x1 => by omega)
end SpecMTest2
