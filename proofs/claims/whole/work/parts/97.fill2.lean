/-! the ways to fill all: the model; fillings -/
section Fill2
variable {G : xG} {l : Launch} {d : Nat} {μ ν α m y z : xMem} {P : Int → xMem → Prop} {PV' : xMem → Prop} {N t : Int}
/-- how many lights stand ahead of c -/
noncomputable def ix (α : xMem) (c : Int) : Int := cntW (fun o => α 117 o = 1) c.toNat
theorem ix_s {c : Int} (h0 : 0 ≤ c) : ix α (c + 1) = ix α c + ind (α 117 c = 1) := by
  unfold ix
  rw [show (c + 1).toNat = c.toNat + 1 by omega, cntW, show ((c.toNat : Nat) : Int) = c by omega]
theorem ix_b {c : Int} (h0 : 0 ≤ c) : 0 ≤ ix α c ∧ ix α c ≤ c := by
  have := cntW_le (p := fun o => α 117 o = 1) c.toNat
  unfold ix
  omega
theorem ix_le {c : Int} (h0 : 0 ≤ c) : ∀ n : Nat, ix α c ≤ ix α (c + n)
  | 0 => by rw [show c + ((0 : Nat) : Int) = c by omega]; exact Int.le_refl _
  | n + 1 => by
    have h1 := ix_le h0 n
    have h2 := ix_s (α := α) (c := c + n) (by omega)
    have h3 := ind_01 (α 117 (c + n) = 1)
    rw [show c + ((n + 1 : Nat) : Int) = c + n + 1 by omega, h2]
    omega
theorem ix_lt {c c' : Int} (hc : lit α c) (h : c < c') : ix α c < ix α c' := by
  have h1 := ix_s (α := α) hc.1
  rw [ind_t hc.2.2] at h1
  have h2 := ix_le (α := α) (c := c + 1) (by have := hc.1; omega) (c' - (c + 1)).toNat
  rw [show c + 1 + (((c' - (c + 1)).toNat : Nat) : Int) = c' by omega] at h2
  omega
theorem ix_inj {c c' : Int} (hc : lit α c) (hc' : lit α c') (h : ix α c = ix α c') : c = c' := by
  rcases (show c < c' ∨ c = c' ∨ c' < c by omega) with q | q | q
  · have := ix_lt hc q; omega
  · exact q
  · have := ix_lt hc' q; omega
/-- the model's order of the lights -/
def ordr (α z : xMem) : Prop := (∀ c, lit α c → z 120 (ix α c) = c) ∧ ∀ i, 0 ≤ i → i < ix α 16 → ∃ c, lit α c ∧ ix α c = i
theorem dfs_leaf {ch : Int → Int} {s : xSt} : ∀ n : Nat, (∀ o, 16 - (n : Int) ≤ o → ¬ lit α o) → dfs α t n ch s = note' ch s
  | 0, _ => rfl
  | n + 1, h => by rw [dfs, cite_f (h _ (Int.le_refl _)), dfs_leaf n (fun o ho => h o (by omega))]
theorem s_mFits {c w : Int} {ch : Int → Int} (hG : gG α) (hW : gW α) (hx : mG α z) (ho : ordr α z) (hc : lit α c) (hch : chk α t ch c) (h121 : ∀ o, lit α o → o < c → z 121 (ix α o) = ch o) (hp : pos α c w t) (h : ∀ r, bit r (fit2 α ch c w) → P r z) : CI G l (d + 2) mX12_fits [xr G 74, xi (ix α c), xi w] z P := by
  obtain ⟨p1, p2⟩ := pos_w hp
  have c0 := hc.1
  have c1 := hc.2.1
  have ib := ix_b (α := α) c0
  have e89 : z 89 = α 89 := hx.2.2.2.2.2.2.k 89 (by decide) (by decide)
  have e76 : z 76 = α 76 := hx.2.2.2.2.2.2.k 76 (by decide) (by decide)
  have lb := (hG.1.2.1 c hc).2.2.1
  apply E_X12_fits
  rw [ho.1 c hc]
  refine ⟨by omega, ?_⟩
  have main : ∀ (n : Nat) (v : Int), v + n = α 89 c → 0 ≤ v → (∀ o k k', o < c → k < v → crs α c o k k' → lt α w k = lt α (ch o) k') → K_X12_fits_10 G l (d + 2) P (ix α c) w c v z := by
    intro n
    induction n with
    | zero =>
      intro v hv v0 hi
      apply B_X12_fits_10
      rw [e89]
      exact ⟨⟨c0, c1⟩, by omega, by omega, fun _ => h 1 (Or.inl ⟨rfl, fun o k k' h1 q => hi o k k' h1 (by have := q.2.2.2.1; omega) q⟩), fun q => by omega⟩
    | succ n ih =>
      intro v hv v0 hi
      have nx : (∀ o k', o < c → crs α c o v k' → lt α w v = lt α (ch o) k') → K_X12_fits_10 G l (d + 2) P (ix α c) w c (v + 1) z := fun hq => ih (v + 1) (by omega) (by omega) (fun o k k' h1 hk q => by
        rcases (show k < v ∨ k = v by omega) with q2 | q2
        · exact hi o k k' h1 q2 q
        · subst q2; exact hq o k' h1 q)
      apply B_X12_fits_10
      rw [e89]
      refine ⟨⟨c0, c1⟩, by omega, by omega, fun q => by omega, fun _ => s_mCellOf hG hx hc v0 (by omega) (s_other hG hx hc v0 (by omega) (fun o hoq => ?_))⟩
      have inner : ∀ (j : Nat) (i : Int), i + j = ix α c → 0 ≤ i → (0 ≤ o → ∀ k', crs α c o v k' → o < c → ix α o < i → lt α w v = lt α (ch o) k') → K_X12_fits_42 G l (d + 2) P (ix α c) w c v (cel α c v) o i z := by
        intro j
        induction j with
        | zero =>
          intro i hij i0 hi2
          apply B_X12_fits_42
          refine ⟨by omega, by omega, fun _ => nx (fun o' k' h1 q => ?_), fun q => by omega⟩
          rcases hoq with g | ⟨g1, _, g3⟩
          · exact absurd q (g.2 o' k')
          · have e1 := g3 o' k' q
            subst e1
            exact hi2 g1 k' q h1 (by have := ix_lt q.2.1 h1; omega)
        | succ j ihj =>
          intro i hij i0 hi2
          have hi16 : i < ix α 16 := by
            have := ix_lt (α := α) hc (show c < 16 by omega)
            omega
          obtain ⟨oi, lo, li⟩ := ho.2 i i0 hi16
          have eo : z 120 i = oi := by rw [← li]; exact ho.1 oi lo
          apply B_X12_fits_42
          rw [eo]
          have lo0 := lo.1
          have lo1 := lo.2.1
          have ob : iR o := by
            rcases hoq with g | ⟨g1, ⟨k', g2⟩, _⟩
            · omega
            · have := g2.2.1.2.1; omega
          refine ⟨by omega, by omega, fun q => by omega, fun _ => ⟨ob, fun q => nx (fun o' k' h1 q2 => ?_), fun q => ⟨by omega, by omega, fun q2 => ihj (i + 1) (by omega) (by omega) (fun g1 k' q3 h1 h2 => ?_), fun q2 => ?_⟩⟩⟩
          · rcases hoq with g | g
            · exact absurd q2 (g.2 o' k')
            · omega
          · rcases (show ix α o < i ∨ ix α o = i by omega) with q4 | q4
            · exact hi2 g1 k' q3 h1 q4
            · exact absurd (ix_inj lo q3.2.1 (by omega)) q2
          · subst q2
            obtain ⟨k', hq⟩ : ∃ k', crs α c oi v k' := by
              rcases hoq with g | g
              · omega
              · exact g.2.1
            have oc : oi < c := by
              rcases (show oi < c ∨ oi = c ∨ c < oi by omega) with q3 | q3 | q3
              · exact q3
              · subst q3; omega
              · have := ix_lt hc q3; omega
            have bk := hq.2.2.2.2.1
            have po := (hch oi lo0 oc).1 lo
            obtain ⟨po1, po2⟩ := pos_w po
            rw [← li, h121 oi lo oc]
            refine s_placeIn hG hx hq (s_letterOf hW e76 po1 bk.1 (by omega) (s_letterOf hW e76 p1 v0 (by omega) ⟨fun q3 => ?_, fun q3 => h 0 (Or.inr ⟨rfl, fun q4 => q3 (q4 oi v k' oc hq).symm⟩)⟩))
            rw [li]
            refine ihj (i + 1) (by omega) (by omega) (fun g1 k2 q4 h1 h2 => ?_)
            rw [(crs_uniq hG.1 q4 hq).2]
            exact q3.symm
      exact inner (ix α c).toNat 0 (by omega) (by omega) (fun g1 k' q h1 h2 => by have := ix_b (α := α) q.2.1.1; omega)
  exact main (α 89 c).toNat 0 (by omega) (by omega) (fun o k k' h1 hk q => by have := q.2.2.2.1; omega)
theorem s_keep' {ch : Int → Int} (ho : ordr α z) (h121 : ∀ o, lit α o → z 121 (ix α o) = ch o) (hun : ∀ o, 0 ≤ o → o < 16 → ¬ lit α o → ch o = -1) (hW : ∀ o, 0 ≤ o → o < 16 → iR (ch o)) (h : ∀ z', FrX [123] [] z z' → (∀ i, 0 ≤ i → i < 16 → z' 123 i = ch i) → PV' z') : CV G l (d + 1) mX12_keep [xr G 74, xi (ix α 16)] z PV' := by
  have hb := ix_b (α := α) (c := 16) (by decide)
  apply E_X12_keep
  have k23 : ∀ (n : Nat) (v : Int) (z1 : xMem), v + n = ix α 16 → 0 ≤ v → FrX [123] [] z z1 → (∀ i, 0 ≤ i → i < 16 → (lit α i → ix α i < v → z1 123 i = ch i) ∧ (¬ (lit α i ∧ ix α i < v) → z1 123 i = -1)) → K_X12_keep_23 G l (d + 1) PV' (ix α 16) v z1 := by
    intro n
    induction n with
    | zero =>
      intro v z1 hv v0 f1 h1
      apply B_X12_keep_23
      refine ⟨by omega, by omega, fun _ => h z1 f1 (fun i i0 i1 => ?_), fun q => by omega⟩
      by_cases q : lit α i
      · exact (h1 i i0 i1).1 q (by have := ix_lt q (show i < 16 by omega); omega)
      · rw [hun i i0 i1 q]; exact (h1 i i0 i1).2 (fun q2 => q q2.1)
    | succ n ih =>
      intro v z1 hv v0 f1 h1
      obtain ⟨oi, lo, li⟩ := ho.2 v v0 (by omega)
      have eo : z1 120 v = oi := by rw [f1.k 120 (by decide), ← li]; exact ho.1 oi lo
      have ec : z1 121 v = ch oi := by rw [f1.k 121 (by decide), ← li]; exact h121 oi lo
      have lo0 := lo.1
      have lo1 := lo.2.1
      apply B_X12_keep_23
      rw [eo, ec]
      refine ⟨by omega, by omega, fun q => by omega, fun _ => ⟨by omega, by omega, ih (v + 1) _ (by omega) (by omega) ((f1.tr (FrX.sa (k := 123))).sub (by decide) (by decide)) (fun i i0 i1 => ?_)⟩⟩
      rw [st_i]
      by_cases q : i = oi
      · rw [if_pos q, q]; exact ⟨fun _ _ => rfl, fun q2 => absurd ⟨lo, by omega⟩ q2⟩
      · rw [if_neg q]
        refine ⟨fun q2 q3 => (h1 i i0 i1).1 q2 ?_, fun q2 => (h1 i i0 i1).2 (fun q3 => q2 ⟨q3.1, by omega⟩)⟩
        rcases (show ix α i < v ∨ ix α i = v by omega) with q4 | q4
        · exact q4
        · exact absurd (ix_inj q2 lo (by omega)) q
  have k2 : ∀ (n : Nat) (v : Int) (z1 : xMem), v + n = 16 → 0 ≤ v → FrX [123] [] z z1 → (∀ i, 0 ≤ i → i < v → z1 123 i = -1) → K_X12_keep_2 G l (d + 1) PV' (ix α 16) v z1 := by
    intro n
    induction n with
    | zero =>
      intro v z1 hv v0 f1 h1
      apply B_X12_keep_2
      exact ⟨by omega, fun _ => k23 (ix α 16).toNat 0 z1 (by omega) (by omega) f1 (fun i i0 i1 => ⟨fun q q2 => by have := ix_b (α := α) i0; omega, fun _ => h1 i i0 (by omega)⟩), fun q => by omega⟩
    | succ n ih =>
      intro v z1 hv v0 f1 h1
      apply B_X12_keep_2
      refine ⟨by omega, fun q => by omega, fun _ => ⟨by omega, ih (v + 1) _ (by omega) (by omega) ((f1.tr (FrX.sa (k := 123))).sub (by decide) (by decide)) (fun i i0 i1 => ?_)⟩⟩
      rw [st_i]
      by_cases q : i = v
      · rw [if_pos q]
      · rw [if_neg q]; exact h1 i i0 (by omega)
  exact k2 16 0 z (by omega) (by omega) FrX.rf (fun i i0 i1 => by omega)
/-- the model's numbers at a depth -/
def MS (m z : xMem) (s : xSt) : Prop := FrX [121, 123] [] m z ∧ (s.1 ≠ 0 → ∀ i, 0 ≤ i → i < 16 → z 123 i = s.2.2 i)
theorem s_mFill (hG : gG α) (hW : gW α) (hx : mG α m) (ho : ordr α m) (hcan : ∀ c w, 0 ≤ c → c < 16 → 0 ≤ w → w < 120 → m 108 (120 * c + w) = ind (pos α c w t)) {Q : Int → xMem → Prop} : ∀ (n : Nat), n ≤ 16 → ∀ (z : xMem) (ch : Int → Int) (s : xSt), ix α (16 - n) < ix α 16 → MS m z s → sok s → ¬ stp s → chk α t ch (16 - n) → (∀ o, lit α o → o < 16 - (n : Int) → z 121 (ix α o) = ch o) → (∀ o, 16 - (n : Int) ≤ o → o < 16 → ch o = -1) → z 121 (ix α (16 - n)) = -1 →
    (¬ stp (dfs α t n ch s) → sok (dfs α t n ch s) → ∀ z', MS m z' (dfs α t n ch s) → (∀ i, i < ix α (16 - n) → z' 121 i = z 121 i) → K_X12_fillings_69 G l (d + 3) Q (ix α 16) (dfs α t n ch s).1 (dfs α t n ch s).2.1 (ix α (16 - n) + (-1)) z') →
    (20000 < (dfs α t n ch s).2.1 → ∀ z', FrX [121, 123] [] m z' → Q (-2) z') →
    ((dfs α t n ch s).2.1 ≤ 20000 → 1000 ≤ (dfs α t n ch s).1 → sok (dfs α t n ch s) → ∀ z', MS m z' (dfs α t n ch s) → CV G l (d + 2) mX12_tellFirst [xr G 74] z' (fun m9 => Q (dfs α t n ch s).1 m9)) →
    K_X12_fillings_69 G l (d + 3) Q (ix α 16) s.1 s.2.1 (ix α (16 - n)) z := by
  have hb := hW.1.1
  have i16 := ix_b (α := α) (c := 16) (by decide)
  intro n
  induction n with
  | zero =>
    intro hn z ch s hlt
    simp at hlt
  | succ n ih =>
    intro hn z ch s hlt hs hsok hns hch h121 hch2 hz1 hk1 hk2 hk3
    have nx1 : (16 : Int) - (n : Int) = 16 - ((n + 1 : Nat) : Int) + 1 := by omega
    generalize hcc : (16 : Int) - ((n + 1 : Nat) : Int) = c at *
    have hc16 : 0 ≤ c ∧ c < 16 := by omega
    rcases Classical.em (lit α c) with hlit | hlit
    · have ed : dfs α t (n + 1) ch s = lpK α t c (dfs α t n) ch (α 74 20).toNat s := by rw [dfs, hcc, cite_t hlit]
      rw [ed] at hk1 hk2 hk3
      have ixn : ix α (16 - (n : Int)) = ix α c + 1 := by rw [nx1, ix_s hc16.1, ind_t hlit.2.2]
      have ic := ix_b (α := α) hc16.1
      have loop : ∀ (k : Nat) (v : Int) (z1 : xMem) (s1 : xSt), v + k = α 74 20 → 0 ≤ v → MS m z1 s1 → sok s1 → ¬ stp s1 → z1 121 (ix α c) = v - 1 → (∀ i, i < ix α c → z1 121 i = z 121 i) →
          (¬ stp (lpK α t c (dfs α t n) ch k s1) → sok (lpK α t c (dfs α t n) ch k s1) → ∀ z', MS m z' (lpK α t c (dfs α t n) ch k s1) → (∀ i, i < ix α c → z' 121 i = z 121 i) → K_X12_fillings_69 G l (d + 3) Q (ix α 16) (lpK α t c (dfs α t n) ch k s1).1 (lpK α t c (dfs α t n) ch k s1).2.1 (ix α c + (-1)) z') →
          (20000 < (lpK α t c (dfs α t n) ch k s1).2.1 → ∀ z', FrX [121, 123] [] m z' → Q (-2) z') →
          ((lpK α t c (dfs α t n) ch k s1).2.1 ≤ 20000 → 1000 ≤ (lpK α t c (dfs α t n) ch k s1).1 → sok (lpK α t c (dfs α t n) ch k s1) → ∀ z', MS m z' (lpK α t c (dfs α t n) ch k s1) → CV G l (d + 2) mX12_tellFirst [xr G 74] z' (fun m9 => Q (lpK α t c (dfs α t n) ch k s1).1 m9)) →
          K_X12_fillings_69 G l (d + 3) Q (ix α 16) s1.1 s1.2.1 (ix α c) z1 := by
        intro k
        induction k with
        | zero =>
          intro v z1 s1 hv v0 m1 k1 ns1 e1 o1 c1 c2 c3
          have f1 := m1.1
          have e20 : z1 74 20 = α 74 20 := by rw [f1.f 74 20 (by decide)]; exact hx.2.2.2.2.2.2.2 20 (by decide) (by decide)
          apply B_X12_fillings_69
          rw [e1, e20]
          refine ⟨by omega, fun q => by omega, fun _ => ⟨by omega, by omega, by omega, fun q => by omega, fun _ => ?_⟩⟩
          exact c1 ns1 k1 _ ⟨(f1.tr (FrX.sa (k := 121))).sub (by decide) (by decide), fun q i i0 i1 => by rw [st_n _ _ _ _ _ _ (by decide)]; exact m1.2 q i i0 i1⟩ (fun i hi => by rw [st_o _ _ _ _ _ (by omega)]; exact o1 i hi)
        | succ k ihk =>
          intro v z1 s1 hv v0 m1 k1 ns1 e1 o1 c1 c2 c3
          have f1 := m1.1
          have e20 : z1 74 20 = α 74 20 := by rw [f1.f 74 20 (by decide)]; exact hx.2.2.2.2.2.2.2 20 (by decide) (by decide)
          have e120 : z1 120 (ix α c) = c := by rw [f1.k 120 (by decide)]; exact ho.1 c hlit
          have ew : α 74 20 - ((k + 1 : Nat) : Int) = v := by omega
          have ecan : z1 108 (120 * c + v) = ind (pos α c v t) := by rw [f1.k 108 (by decide)]; exact hcan c v hc16.1 hc16.2 v0 (by omega)
          rw [lpK, ew] at c1 c2 c3
          have f2 : FrX [121, 123] [] m (st2 z1 121 (ix α c) v) := (f1.tr (FrX.sa (k := 121))).sub (by decide) (by decide)
          have m2 : MS m (st2 z1 121 (ix α c) v) s1 := ⟨f2, fun q i i0 i1 => by rw [st_n _ _ _ _ _ _ (by decide)]; exact m1.2 q i i0 i1⟩
          have o2 : ∀ i, i < ix α c → (st2 z1 121 (ix α c) v) 121 i = z 121 i := fun i hi => by rw [st_o _ _ _ _ _ (by omega)]; exact o1 i hi
          have v2 : (st2 z1 121 (ix α c) v) 121 (ix α c) = v := st_s _ _ _ _
          apply B_X12_fillings_69
          rw [e1, e20, e120, show v - 1 + 1 = v by omega, ecan]
          have kb1 := k1.1
          have kb2 := k1.2.1
          have nst : s1.1 < 1000 ∧ s1.2.1 ≤ 20000 := by unfold stp at ns1; omega
          refine ⟨by omega, fun q => by omega, fun _ => ⟨by omega, by omega, by omega, fun _ => ⟨by omega, by have := ind_01 (pos α c v t); omega, fun q => ?_, fun q => ?_⟩, fun q => by omega⟩⟩
          · have hp := ind_ne.mp q
            rw [cite_t ⟨hp, ns1⟩] at c1 c2 c3
            unfold stW at c1 c2 c3
            refine ⟨by omega, fun q2 => ?_, fun q2 => ?_⟩
            · rw [cite_f (by omega)] at c1 c2 c3
              generalize hz2 : st2 z1 121 (ix α c) v = z2 at *
              have hx2 : mG α z2 := hx.kept f2 (by decide)
              have or2 : ordr α z2 := ⟨fun o q => by rw [f2.k 120 (by decide)]; exact ho.1 o q, ho.2⟩
              have h2c : ∀ o, lit α o → o < c → z2 121 (ix α o) = ch o := fun o lo oc => by rw [o2 _ (ix_lt lo oc)]; exact h121 o lo oc
              have k2 : sok (s1.1, s1.2.1 + 1, s1.2.2) := ⟨kb1, by simp only; omega, k1.2.2⟩
              have m2' : MS m z2 (s1.1, s1.2.1 + 1, s1.2.2) := ⟨f2, m2.2⟩
              refine s_mFits hG hW hx2 or2 hlit hch h2c hp (fun r21 g21 => ⟨fun q3 => ?_, fun q3 => ?_⟩)
              · rw [cite_t ((bitne g21).mp q3)] at c1 c2 c3
                have chk2 : chk α t (setc ch c v) (16 - n) := by
                  intro o o0 oc
                  unfold setc
                  by_cases e : o = c
                  · rw [if_pos e]; exact ⟨fun _ => by rw [e]; exact hp, fun q3 => absurd (by rw [e]; exact hlit) q3⟩
                  · rw [if_neg e]; exact hch o o0 (by omega)
                have h2s : ∀ o, lit α o → o < 16 - (n : Int) → z2 121 (ix α o) = setc ch c v o := by
                  intro o lo oc
                  unfold setc
                  by_cases e : o = c
                  · rw [if_pos e, e]; exact v2
                  · rw [if_neg e]; exact h2c o lo (by omega)
                -- what goes on with a result of the deeper ones
                have cont : ∀ s2 : xSt, s2 = dfs α t n (setc ch c v) (s1.1, s1.2.1 + 1, s1.2.2) → ¬ stp s2 → sok s2 → ∀ z', MS m z' s2 → (∀ i, i < ix α c + 1 → z' 121 i = z2 121 i) → K_X12_fillings_69 G l (d + 3) Q (ix α 16) s2.1 s2.2.1 (ix α c) z' := by
                  intro s2 es2 ns2 ks2 z' mz' oz'
                  subst es2
                  refine ihk (v + 1) z' _ (by omega) (by omega) mz' ks2 ns2 (by rw [oz' _ (by omega), v2]; omega) (fun i hi => by rw [oz' i (by omega)]; exact o2 i hi) c1 c2 c3
                refine ⟨by omega, by omega, fun q4 => ?_, fun q4 => ?_⟩
                · -- a way
                  have nol : ∀ o, 16 - (n : Int) ≤ o → ¬ lit α o := fun o oc lo => by
                    have h1 := ix_lt lo lo.2.1
                    have h2 := ix_le (α := α) (c := 16 - (n : Int)) (by omega) (o - (16 - (n : Int))).toNat
                    rw [show 16 - (n : Int) + (((o - (16 - (n : Int))).toNat : Nat) : Int) = o by omega] at h2
                    omega
                  have eleaf := dfs_leaf (α := α) (t := t) (ch := setc ch c v) (s := (s1.1, s1.2.1 + 1, s1.2.2)) n nol
                  rw [eleaf] at c1 c2 c3 cont
                  have hun : ∀ o, 0 ≤ o → o < 16 → ¬ lit α o → setc ch c v o = -1 := fun o o0 o16 ho' => by
                    rcases (show o < 16 - (n : Int) ∨ 16 - (n : Int) ≤ o by omega) with q5 | q5
                    · exact (chk2 o o0 q5).2 ho'
                    · unfold setc; rw [if_neg (by omega)]; exact hch2 o (by omega) o16
                  have rng : ∀ o, 0 ≤ o → o < 16 → -1 ≤ setc ch c v o ∧ setc ch c v o < 120 := fun o o0 o16 => by
                    by_cases lo : lit α o
                    · have oc : o < 16 - (n : Int) := by
                        rcases (show o < 16 - (n : Int) ∨ 16 - (n : Int) ≤ o by omega) with q5 | q5
                        · exact q5
                        · exact absurd lo (nol o q5)
                      have := (pos_w ((chk2 o o0 oc).1 lo)).1
                      omega
                    · rw [hun o o0 o16 lo]; omega
                  have ksN : sok (note' (setc ch c v) (s1.1, s1.2.1 + 1, s1.2.2)) := by
                    refine ⟨by unfold note'; simp only; omega, by unfold note'; simp only; omega, fun _ i i0 i1 => ?_⟩
                    unfold note'
                    simp only
                    split
                    · exact rng i i0 i1
                    · rename_i q5; exact k1.2.2 q5 i i0 i1
                  have after : ∀ z', MS m z' (note' (setc ch c v) (s1.1, s1.2.1 + 1, s1.2.2)) → (∀ i, i < ix α c + 1 → z' 121 i = z2 121 i) → (s1.1 + 1 ≠ 1000 → K_X12_fillings_69 G l (d + 3) Q (ix α 16) (s1.1 + 1) (s1.2.1 + 1) (ix α c) z') ∧ (s1.1 + 1 = 1000 → CV G l (d + 2) mX12_tellFirst [xr G 74] z' (fun m9 => Q (s1.1 + 1) m9)) := by
                    intro z' mz' oz'
                    refine ⟨fun q5 => cont _ rfl (by unfold stp note'; simp only; omega) ksN z' mz' oz', fun q5 => ?_⟩
                    have hst : stp (note' (setc ch c v) (s1.1, s1.2.1 + 1, s1.2.2)) := by unfold stp note'; simp only; omega
                    rw [lpK_stop k _ hst] at c3
                    exact c3 (by unfold note'; simp only; omega) (by unfold note'; simp only; omega) ksN z' mz'
                  refine ⟨by omega, fun q5 => after z2 ⟨f2, fun q6 i i0 i1 => ?_⟩ (fun _ _ => rfl), fun q5 => s_keep' or2 (fun o lo => h2s o lo ?_) hun (fun o o0 o16 => by have := rng o o0 o16; omega) (fun z' f' h' => after z' ⟨(f2.tr f').sub (by decide) (by decide), fun q6 i i0 i1 => ?_⟩ (fun i hi => by rw [f'.k 121 (by decide)]))⟩
                  · show z2 123 i = (if s1.1 = 0 then setc ch c v else s1.2.2) i
                    rw [if_neg (by omega)]
                    exact m2.2 (by omega) i i0 i1
                  · rcases (show o < 16 - (n : Int) ∨ 16 - (n : Int) ≤ o by omega) with q6 | q6
                    · exact q6
                    · exact absurd lo (nol o q6)
                  · show z' 123 i = (if s1.1 = 0 then setc ch c v else s1.2.2) i
                    rw [if_pos (by omega)]
                    exact h' i i0 i1
                · -- deeper
                  refine ⟨by omega, ?_⟩
                  have f3 : FrX [121] [] z2 (st2 z2 121 (ix α c + 1) (-1)) := FrX.sa
                  have := ih (by omega) (st2 z2 121 (ix α c + 1) (-1)) (setc ch c v) (s1.1, s1.2.1 + 1, s1.2.2) (by omega) ⟨(f2.tr f3).sub (by decide) (by decide), fun q5 i i0 i1 => by rw [st_n _ _ _ _ _ _ (by decide)]; exact m2.2 q5 i i0 i1⟩ k2 (by unfold stp; simp only; omega) chk2 (fun o lo oc => by
                    have := ix_lt lo oc
                    rw [st_o _ _ _ _ _ (by omega)]; exact h2s o lo oc) (fun o oc o16 => by unfold setc; rw [if_neg (by omega)]; exact hch2 o (by omega) o16) (by rw [ixn]; exact st_s _ _ _ _) (fun ns2 ks2 z' mz' oz' => ?_) (fun q5 z' fz' => ?_) (fun q5 q6 ks2 z' mz' => ?_)
                  · rw [ixn] at this
                    exact this
                  · rw [ixn, show ix α c + 1 + -1 = ix α c by omega]
                    refine cont _ rfl ns2 ks2 z' mz' (fun i hi => ?_)
                    rw [oz' i (by omega), st_o _ _ _ _ _ (by omega)]
                  · rw [lpK_stop k _ (Or.inr q5)] at c2
                    exact c2 q5 z' fz'
                  · rw [lpK_stop k _ (Or.inl q6)] at c3
                    exact c3 q5 q6 ks2 z' mz'
              · rw [cite_f ((bit0 g21).mp q3)] at c1 c2 c3
                exact ihk (v + 1) z2 _ (by omega) (by omega) m2' k2 (by unfold stp; simp only; omega) (by rw [v2]; omega) o2 c1 c2 c3
            · rw [cite_t q2] at c1 c2 c3
              rw [lpK_stop k _ (Or.inr q2)] at c2
              exact c2 q2 _ f2
          · rw [cite_f (fun q2 => ind_eq.mp q q2.1)] at c1 c2 c3
            exact ihk (v + 1) _ s1 (by omega) (by omega) m2 k1 ns1 (by rw [v2]; omega) o2 c1 c2 c3
      exact loop (α 74 20).toNat 0 z s (by omega) (by omega) hs hsok hns (by rw [hz1]; rfl) (fun _ _ => rfl) hk1 hk2 hk3
    · have ed : dfs α t (n + 1) ch s = dfs α t n ch s := by rw [dfs, hcc, cite_f hlit]
      rw [ed] at hk1 hk2 hk3
      have hl0 : ¬ α 117 c = 1 := fun q => hlit ⟨hc16.1, hc16.2, q⟩
      have ixn : ix α (16 - (n : Int)) = ix α c := by rw [nx1, ix_s hc16.1, ind_f hl0]; omega
      have chc : ch c = -1 := hch2 c (Int.le_refl _) hc16.2
      have := ih (by omega) z ch s (by omega) hs hsok hns (fun o o0 oc => ?_) (fun o lo oc => ?_) (fun o oc o16 => hch2 o (by omega) o16) (by rw [ixn]; exact hz1) (by rw [ixn]; exact hk1) hk2 hk3
      · rw [ixn] at this; exact this
      · rcases (show o < c ∨ o = c by omega) with e | e
        · exact hch o o0 e
        · subst e; exact ⟨fun q => absurd q hlit, fun _ => chc⟩
      · rcases (show o < c ∨ o = c by omega) with e | e
        · exact h121 o lo e
        · subst e; exact absurd lo hlit
theorem s_tellFirst {F : Int → Int} (h123 : ∀ i, 0 ≤ i → i < 16 → z 123 i = F i) (hF : ∀ i, 0 ≤ i → i < 16 → iR (F i)) (h : ∀ z', FrX [122] [(74, 72)] z z' → z' 74 72 = 1 → (∀ i, 0 ≤ i → i < 16 → z' 122 i = F i) → PV' z') : CV G l (d + 1) mX12_tellFirst [xr G 74] z PV' := by
  apply E_X12_tellFirst
  have main : ∀ (n : Nat) (v : Int) (z1 : xMem), v + n = 16 → 0 ≤ v → FrX [122] [(74, 72)] z z1 → z1 74 72 = 1 → (∀ i, 0 ≤ i → i < v → z1 122 i = F i) → K_X12_tellFirst_7 G l (d + 1) PV' v z1 := by
    intro n
    induction n with
    | zero =>
      intro v z1 hv v0 f1 e1 h1
      apply B_X12_tellFirst_7
      exact ⟨by omega, fun _ => h z1 f1 e1 (fun i i0 i1 => h1 i i0 (by omega)), fun q => by omega⟩
    | succ n ih =>
      intro v z1 hv v0 f1 e1 h1
      have e3 : z1 123 v = F v := by rw [f1.k 123 (by decide)]; exact h123 v v0 (by omega)
      have := hF v v0 (by omega)
      apply B_X12_tellFirst_7
      rw [e3]
      refine ⟨by omega, fun q => by omega, fun _ => ⟨by omega, ih (v + 1) _ (by omega) (by omega) ((f1.tr (FrX.sa (k := 122))).sub (by decide) (by decide)) (by rw [st_n _ _ _ _ _ _ (by decide)]; exact e1) (fun i i0 i1 => ?_)⟩⟩
      rw [st_i]
      by_cases q : i = v
      · rw [if_pos q, q]
      · rw [if_neg q]; exact h1 i i0 (by omega)
  exact main 16 0 _ (by omega) (by omega) (FrX.st.sub (by decide) (by decide)) (st_s _ _ _ _) (fun i i0 i1 => by omega)
end Fill2
