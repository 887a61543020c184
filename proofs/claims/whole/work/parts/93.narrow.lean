/-! the model: narrow -/
section Narrow
variable {G : xG} {l : Launch} {d : Nat} {μ ν α m y : xMem} {P : Int → xMem → Prop} {PV' : xMem → Prop} {N : Int}
def Lm (y : xMem) (c w : Int) : Prop := ((0 ≤ c ∧ c < 16) ∧ 0 ≤ w ∧ w < 120) ∧ y 119 (120 * c + w) = 1
/-- the state of narrowing -/
def NI (α : xMem) (t : Int) (e : Int → Int) (m y : xMem) : Prop := FrX [119] [] m y ∧ ∀ c w, 0 ≤ c → c < 16 → 0 ≤ w → w < 120 → (y 119 (120 * c + w) = 0 ∨ y 119 (120 * c + w) = 1) ∧ (y 119 (120 * c + w) = 1 → L0 α t e c w) ∧ (GF α t e c w → y 119 (120 * c + w) = 1)
theorem s_isBorne {c w t : Int} {e : Int → Int} (hG : gG α) (hW : gW α) (hx : mG α m) (hn : NI α t e m y) (hc : lit α c) (hw : 0 ≤ w ∧ w < α 74 20) (hl : α 77 w = α 89 c) (h : ∀ r, bit r (brn α (Lm y) c w) → P r y) : CI G l (d + 2) mX12_isBorne [xr G 74, xi c, xi w] y P := by
  obtain ⟨fy, hy⟩ := hn
  have hxy : mG α y := hx.kept fy (by decide)
  have e89 : y 89 = α 89 := hxy.2.2.2.2.2.2.k 89 (by decide) (by decide)
  have e76 : y 76 = α 76 := hxy.2.2.2.2.2.2.k 76 (by decide) (by decide)
  have e20 : y 74 20 = α 74 20 := hxy.2.2.2.2.2.2.2 20 (by decide) (by decide)
  have hb := hW.1.1
  have lb := (hG.1.2.1 c hc).2.2.1
  have c0 := hc.1
  have c1 := hc.2.1
  apply E_X12_isBorne
  have main : ∀ (n : Nat) (v : Int), v + n = α 89 c → 0 ≤ v → (∀ o k k', k < v → crs α c o k k' → ∃ x, Lm y o x ∧ lt α x k' = lt α w k) → K_X12_isBorne_2 G l (d + 2) P c w v y := by
    intro n
    induction n with
    | zero =>
      intro v hv v0 hi
      apply B_X12_isBorne_2
      rw [e89]
      exact ⟨by omega, by omega, by omega, fun _ => h 1 (Or.inl ⟨rfl, fun o k k' q => hi o k k' (by have := q.2.2.2.1; omega) q⟩), fun z => by omega⟩
    | succ n ih =>
      intro v hv v0 hi
      have nx : (∀ o k', crs α c o v k' → ∃ x, Lm y o x ∧ lt α x k' = lt α w v) → K_X12_isBorne_2 G l (d + 2) P c w (v + 1) y := fun hq => ih (v + 1) (by omega) (by omega) (fun o k k' hk q => by
        rcases (show k < v ∨ k = v by omega) with q2 | q2
        · exact hi o k k' q2 q
        · subst q2; exact hq o k' q)
      apply B_X12_isBorne_2
      rw [e89]
      refine ⟨by omega, by omega, by omega, fun z => by omega, fun _ => s_mCellOf hG hxy hc v0 (by omega) (s_other hG hxy hc v0 (by omega) (fun o ho => ⟨fun z => ?_, fun z => nx (fun o' k' q => ?_)⟩))⟩
      · obtain ⟨⟨k', hq⟩, hu⟩ : (∃ k', crs α c o v k') ∧ ∀ o' k', crs α c o' v k' → o' = o := by
          rcases ho with q | q
          · omega
          · exact q.2
        have lo := hq.2.1
        have b2 := hq.2.2.2.2.1
        have uq : ∀ o' k2, crs α c o' v k2 → o' = o ∧ k2 = k' := fun o' k2 q => by
          have e1 := hu o' k2 q
          subst e1
          exact ⟨rfl, (crs_uniq hG.1 q hq).2⟩
        have got : (∃ x, Lm y o x ∧ lt α x k' = lt α w v) → K_X12_isBorne_2 G l (d + 2) P c w (v + 1) y := fun hg => nx (fun o' k2 q => by
          obtain ⟨e1, e2⟩ := uq o' k2 q
          subst e1; subst e2; exact hg)
        have inner : ∀ (j : Nat) (x : Int), x + j = α 74 20 → 0 ≤ x → (∀ x', 0 ≤ x' → x' < x → ¬ (Lm y o x' ∧ lt α x' k' = lt α w v)) → K_X12_isBorne_43 G l (d + 2) P c w v (cel α c v) o 0 x y := by
          intro j
          induction j with
          | zero =>
            intro x hj x0 hi'
            apply B_X12_isBorne_43
            rw [e20]
            refine ⟨by omega, by omega, fun _ => ⟨by decide, fun q => absurd rfl q, fun _ => h 0 (Or.inr ⟨rfl, fun q => ?_⟩)⟩, fun q => by omega⟩
            obtain ⟨x', x1, x2⟩ := q o v k' hq
            have hr := (hy o x' x1.1.1.1 x1.1.1.2 x1.1.2.1 x1.1.2.2).2.1 x1.2
            have := (L0_w hr).1
            exact hi' x' x1.1.2.1 (by omega) ⟨x1, x2⟩
          | succ j ihj =>
            intro x hj x0 hi'
            have yb := hy o x lo.1 lo.2.1 x0 (by omega)
            have o0 := lo.1
            have o1 := lo.2.1
            apply B_X12_isBorne_43
            rw [e20]
            have yb1 := yb.1
            refine ⟨by omega, by omega, fun q => by omega, fun _ => ⟨by decide, fun q => absurd rfl q, fun _ => ⟨by omega, by rcases yb1 with q | q <;> rw [q] <;> decide, fun q => ihj (x + 1) (by omega) (by omega) (fun x' x0' x1' => ?_), fun q => ?_⟩⟩⟩
            · rcases (show x' < x ∨ x' = x by omega) with q2 | q2
              · exact hi' x' x0' q2
              · subst q2
                rintro ⟨⟨_, q3⟩, _⟩
                rw [q] at q3
                exact absurd q3 (by decide)
            · have y1 : y 119 (120 * o + x) = 1 := by rcases yb1 with q2 | q2; (exact absurd q2 q); exact q2
              have hL := yb.2.1 y1
              obtain ⟨lw1, lw2⟩ := L0_w hL
              have hLm : Lm y o x := ⟨⟨⟨o0, o1⟩, x0, by omega⟩, y1⟩
              refine s_placeIn hG hxy hq (s_letterOf hW e76 lw1 b2.1 (by omega) (s_letterOf hW e76 hw v0 (by omega) ⟨fun q2 => ihj (x + 1) (by omega) (by omega) (fun x' x0' x1' => ?_), fun q2 => ?_⟩))
              · rcases (show x' < x ∨ x' = x by omega) with q3 | q3
                · exact hi' x' x0' q3
                · subst q3; exact fun q4 => q2 q4.2
              · have hg := got ⟨x, hLm, q2⟩
                apply B_X12_isBorne_43
                rw [e20]
                exact ⟨by omega, by omega, fun _ => ⟨by decide, fun _ => hg, fun q3 => absurd q3 (by decide)⟩, fun _ => ⟨by decide, fun _ => ⟨fun _ => hg, fun q3 => absurd q3 (by decide)⟩, fun q3 => absurd q3 (by decide)⟩⟩
        exact inner (α 74 20).toNat 0 (by omega) (by omega) (fun x' x0' x1' => by omega)
      · rcases ho with q2 | q2
        · exact absurd q (q2.2 o' k')
        · omega
  exact main (α 89 c).toNat 0 (by omega) (by omega) (fun o k k' hk q => by have := q.2.2.2.1; omega)
theorem cnt_off {j : Int} (hj : 0 ≤ j) (h1 : y 119 j = 1) (n : Nat) (hn : j < n) : cntW (fun i => (st2 y 119 j 0) 119 i = 1) n + 1 = cntW (fun i => y 119 i = 1) n := by
  have e := cntW_one (p := fun i => (st2 y 119 j 0) 119 i = 1) hj (by rw [st_s]; decide) n
  rw [if_pos hn] at e
  rw [← e]
  refine cntW_congr n (fun v v0 v1 => ?_)
  rw [st_i]
  by_cases q : v = j
  · rw [if_pos q, q]; exact ⟨fun _ => h1, fun _ => Or.inr rfl⟩
  · rw [if_neg q]; exact ⟨fun z => z.elim id (fun z => absurd z q), Or.inl⟩
theorem s_narrow {t : Int} {e : Int → Int} (hN9 : 0 ≤ N ∧ N ≤ 600) (ht : iR t) (hG : gG α) (hW : gW α) (hX : XW m) (hK : gK N m) (hx : mG α m) (h113 : ∀ x, 0 ≤ x → x < 81 → m 113 x = e x) (he : eOk e)
    (h : ∀ y, FrX (119 :: Sf) Tf m y → gK N y → (∀ c w, 0 ≤ c → c < 16 → 0 ≤ w → w < 120 → (y 119 (120 * c + w) = 0 ∨ y 119 (120 * c + w) = 1) ∧ (y 119 (120 * c + w) = 1 ↔ GF α t e c w)) → PV' y) : CV G l (d + 10) mX12_narrow [xr G 74, xi t] m PV' := by
  have hb := hW.1.1
  apply E_X12_narrow
  refine s_mfind hN9 ht hX hK (fun m1 f1 k1 can => ?_)
  have hx1 : mG α m1 := hx.kept f1 (by decide)
  have hA1 : MA α m1 := hx1.2.2.2.2.2.2
  have e113 : ∀ x, 0 ≤ x → x < 81 → m1 113 x = e x := fun x x0 x1 => by rw [f1.k 113 (by decide)]; exact h113 x x0 x1
  -- the rounds
  have rounds : ∀ (T : Nat) (y : xMem), NI α t e m1 y → cntW (fun i => y 119 i = 1) 1920 ≤ T → K_X12_narrow_83 G l (d + 10) PV' 1 y := by
    intro T
    induction T with
    | zero =>
      intro y hn hT
      apply B_X12_narrow_83
      refine ⟨by decide, fun q => absurd q (by decide), fun _ => ?_⟩
      have zero : ∀ i : Int, 0 ≤ i → i < 1920 → ¬ y 119 i = 1 := by
        intro i i0 i1 q
        have := cnt_off i0 q 1920 (by omega)
        have := (cntW_le (p := fun j => (st2 y 119 i 0) 119 j = 1) 1920).1
        omega
      have l100 : ∀ (n : Nat) (v c : Int), v + n = α 74 20 → 0 ≤ v → 0 ≤ c → c < 16 → K_X12_narrow_91 G l (d + 10) PV' 0 (c + 1) y → K_X12_narrow_100 G l (d + 10) PV' 0 c v y := by
        intro n
        induction n with
        | zero =>
          intro v c hv v0 c0 c1 hk
          apply B_X12_narrow_100
          rw [hn.1.f 74 20 (by decide), hA1.2 20 (by decide) (by decide)]
          exact ⟨by omega, by omega, fun _ => hk, fun q => by omega⟩
        | succ n ih =>
          intro v c hv v0 c0 c1 hk
          have b := (hn.2 c v c0 c1 v0 (by omega)).1
          have z := zero (120 * c + v) (by omega) (by omega)
          apply B_X12_narrow_100
          rw [hn.1.f 74 20 (by decide), hA1.2 20 (by decide) (by decide)]
          exact ⟨by omega, by omega, fun q => by omega, fun _ => ⟨by omega, by omega, fun _ => ih (v + 1) c (by omega) (by omega) c0 c1 hk, fun q => by omega⟩⟩
      have l91 : ∀ (n : Nat) (c : Int), c + n = 16 → 0 ≤ c → K_X12_narrow_91 G l (d + 10) PV' 0 c y := by
        intro n
        induction n with
        | zero =>
          intro c hc c0
          apply B_X12_narrow_91
          refine ⟨by omega, fun _ => ?_, fun q => by omega⟩
          apply B_X12_narrow_83
          refine ⟨by decide, fun _ => h y ((f1.tr hn.1).sub (by decide) (by decide)) (k1.kept (MA.of hn.1 (by decide)) hn.1 (by decide)) (fun c w c0 c1 w0 w1 => ⟨(hn.2 c w c0 c1 w0 w1).1, fun q => absurd q (zero _ (by omega) (by omega)), (hn.2 c w c0 c1 w0 w1).2.2⟩), fun q => absurd rfl q⟩
        | succ n ih =>
          intro c hc c0
          apply B_X12_narrow_91
          exact ⟨by omega, fun q => by omega, fun _ => l100 (α 74 20).toNat 0 c (by omega) (by omega) c0 (by omega) (ih (c + 1) (by omega) (by omega))⟩
      exact l91 16 0 (by omega) (by omega)
    | succ T ihT =>
      intro y hn hT
      apply B_X12_narrow_83
      refine ⟨by decide, fun q => absurd q (by decide), fun _ => ?_⟩
      -- one round: more is 0 as long as nothing has gone
      have l100 : ∀ (n : Nat) (v c r : Int) (z : xMem), v + n = α 74 20 → 0 ≤ v → 0 ≤ c → c < 16 → (r = 0 ∨ r = 1) → NI α t e m1 z → (r = 0 → z = y ∧ ∀ w, 0 ≤ w → w < v → Lm y c w → brn α (Lm y) c w) → (cntW (fun i => z 119 i = 1) 1920 ≤ cntW (fun i => y 119 i = 1) 1920) → (r ≠ 0 → cntW (fun i => z 119 i = 1) 1920 < cntW (fun i => y 119 i = 1) 1920) → (∀ r' z', (r' = 0 ∨ r' = 1) → NI α t e m1 z' → (r' = 0 → r = 0 ∧ z' = y ∧ ∀ w, Lm y c w → brn α (Lm y) c w) → (cntW (fun i => z' 119 i = 1) 1920 ≤ cntW (fun i => y 119 i = 1) 1920) → (r' ≠ 0 → cntW (fun i => z' 119 i = 1) 1920 < cntW (fun i => y 119 i = 1) 1920) → K_X12_narrow_91 G l (d + 10) PV' r' (c + 1) z') → K_X12_narrow_100 G l (d + 10) PV' r c v z := by
        intro n
        induction n with
        | zero =>
          intro v c r z hv v0 c0 c1 hr hz h0 h1 h2 hk
          apply B_X12_narrow_100
          rw [hz.1.f 74 20 (by decide), hA1.2 20 (by decide) (by decide)]
          refine ⟨by omega, by omega, fun _ => hk r z hr hz (fun q => ⟨q, (h0 q).1, fun w hw => (h0 q).2 w hw.1.2.1 ?_ hw⟩) h1 h2, fun q => by omega⟩
          have := (L0_w ((hn.2 c w hw.1.1.1 hw.1.1.2 hw.1.2.1 hw.1.2.2).2.1 hw.2)).1
          omega
        | succ n ih =>
          intro v c r z hv v0 c0 c1 hr hz h0 h1 h2 hk
          obtain ⟨b1, b2, b3⟩ := hz.2 c v c0 c1 v0 (by omega)
          apply B_X12_narrow_100
          rw [hz.1.f 74 20 (by decide), hA1.2 20 (by decide) (by decide)]
          refine ⟨by omega, by omega, fun q => by omega, fun _ => ⟨by omega, by rcases b1 with q | q <;> rw [q] <;> decide, fun q => ih (v + 1) c r z (by omega) (by omega) c0 c1 hr hz (fun q2 => ⟨(h0 q2).1, fun w w0 w1 hw => ?_⟩) h1 h2 hk, fun q => ?_⟩⟩
          · rcases (show w < v ∨ w = v by omega) with q3 | q3
            · exact (h0 q2).2 w w0 q3 hw
            · subst q3
              have := hw.2
              rw [← (h0 q2).1, q] at this
              exact absurd this (by decide)
          · have z1 : z 119 (120 * c + v) = 1 := by rcases b1 with q2 | q2; (exact absurd q2 q); exact q2
            have hL := b2 z1
            obtain ⟨lw1, lw2⟩ := L0_w hL
            refine s_isBorne hG hW hx1 hz hL.1 lw1 lw2 (fun r9 g9 => ⟨fun q2 => ?_, fun q2 => ih (v + 1) c r z (by omega) (by omega) c0 c1 hr hz (fun q3 => ⟨(h0 q3).1, fun w w0 w1 hw => ?_⟩) h1 h2 hk⟩)
            · have co := cnt_off (y := z) (j := 120 * c + v) (by omega) z1 1920 (by omega)
              have hz' : NI α t e m1 (st2 z 119 (120 * c + v) 0) := by
                refine ⟨(hz.1.tr (FrX.sa (k := 119))).sub (by decide) (by decide), fun c' w c0' c1' w0 w1 => ?_⟩
                obtain ⟨a1, a2, a3⟩ := hz.2 c' w c0' c1' w0 w1
                rw [st_i]
                by_cases e1 : 120 * c' + w = 120 * c + v
                · rw [if_pos e1]
                  refine ⟨Or.inl rfl, fun q3 => absurd q3 (by decide), fun q3 => absurd ?_ ((bit0 g9).mp q2)⟩
                  have ec : c' = c := by omega
                  have ew : w = v := by omega
                  subst ec; subst ew
                  intro o k k' hq
                  obtain ⟨x, x1, x2⟩ := GF_b q3 o k k' hq
                  have xw := (L0_w (GF_L0 x1)).1
                  exact ⟨x, ⟨⟨⟨hq.2.1.1, hq.2.1.2.1⟩, xw.1, by omega⟩, (hz.2 o x hq.2.1.1 hq.2.1.2.1 xw.1 (by omega)).2.2 x1⟩, x2⟩
                · rw [if_neg e1]; exact ⟨a1, a2, a3⟩
              exact ih (v + 1) c 1 _ (by omega) (by omega) c0 c1 (Or.inr rfl) hz' (fun q3 => absurd q3 (by decide)) (by omega) (fun _ => by omega) (fun r' z' a1 a2 a3 a4 a5 => hk r' z' a1 a2 (fun q3 => absurd (a3 q3).1 (by decide)) a4 a5)
            · rcases (show w < v ∨ w = v by omega) with q4 | q4
              · exact (h0 q3).2 w w0 q4 hw
              · subst q4
                have := (bitne g9).mp q2
                rw [(h0 q3).1] at this
                exact this
      have l91 : ∀ (n : Nat) (c r : Int) (z : xMem), c + n = 16 → 0 ≤ c → (r = 0 ∨ r = 1) → NI α t e m1 z → (r = 0 → z = y ∧ ∀ c' w, 0 ≤ c' → c' < c → Lm y c' w → brn α (Lm y) c' w) → (cntW (fun i => z 119 i = 1) 1920 ≤ cntW (fun i => y 119 i = 1) 1920) → (r ≠ 0 → cntW (fun i => z 119 i = 1) 1920 < cntW (fun i => y 119 i = 1) 1920) → K_X12_narrow_91 G l (d + 10) PV' r c z := by
        intro n
        induction n with
        | zero =>
          intro c r z hc c0 hr hz h0 h1 h2
          apply B_X12_narrow_91
          refine ⟨by omega, fun _ => ?_, fun q => by omega⟩
          by_cases q : r = 0
          · obtain ⟨e1, e2⟩ := h0 q
            subst e1
            apply B_X12_narrow_83
            refine ⟨by omega, fun _ => h z ((f1.tr hz.1).sub (by decide) (by decide)) (k1.kept (MA.of hz.1 (by decide)) hz.1 (by decide)) (fun c w c0 c1 w0 w1 => ⟨(hz.2 c w c0 c1 w0 w1).1, fun q2 => ?_, (hz.2 c w c0 c1 w0 w1).2.2⟩), fun q2 => absurd q q2⟩
            exact GF_max (L := Lm z) (fun c w hw => (hz.2 c w hw.1.1.1 hw.1.1.2 hw.1.2.1 hw.1.2.2).2.1 hw.2) (fun c w hw => e2 c w hw.1.1.1 (by have := hw.1.1.2; omega) hw) ⟨⟨⟨c0, c1⟩, w0, w1⟩, q2⟩
          · have q1 : r = 1 := by omega
            subst q1
            have := h2 (by decide)
            exact ihT z hz (by omega)
        | succ n ih =>
          intro c r z hc c0 hr hz h0 h1 h2
          apply B_X12_narrow_91
          refine ⟨by omega, fun q => by omega, fun _ => l100 (α 74 20).toNat 0 c r z (by omega) (by omega) c0 (by omega) hr hz (fun q => ⟨(h0 q).1, fun w w0 w1 => by omega⟩) h1 h2 (fun r' z' a1 a2 a3 a4 a5 => ih (c + 1) r' z' (by omega) (by omega) a1 a2 (fun q => ?_) a4 a5)⟩
          obtain ⟨q1, q2, q3⟩ := a3 q
          refine ⟨q2, fun c' w c0' c1' hw => ?_⟩
          rcases (show c' < c ∨ c' = c by omega) with q4 | q4
          · exact (h0 q1).2 c' w c0' q4 hw
          · subst q4; exact q3 w hw
      exact l91 16 0 0 y (by omega) (by omega) (Or.inl rfl) hn (fun _ => ⟨rfl, fun c' w c0' c1' => by omega⟩) (Int.le_refl _) (fun q => absurd rfl q)
  -- the table at first
  have h117 : ∀ c, 0 ≤ c → c < 16 → m1 117 c = α 117 c := fun c _ _ => by rw [hx1.2.2.2.2.1]
  have first : ∀ (n : Nat) (c : Int) (y : xMem), c + n = 16 → 0 ≤ c → FrX [119] [] m1 y → (∀ c' w, 0 ≤ c' → c' < c → 0 ≤ w → w < 120 → (y 119 (120 * c' + w) = 0 ∨ y 119 (120 * c' + w) = 1) ∧ (y 119 (120 * c' + w) = 1 ↔ L0 α t e c' w)) → K_X12_narrow_7 G l (d + 10) PV' c y := by
    intro n
    induction n with
    | zero =>
      intro c y hc c0 fy hy
      apply B_X12_narrow_7
      refine ⟨by omega, fun _ => rounds 1920 y ⟨fy, fun c' w c0' c1' w0 w1 => ?_⟩ (cntW_le 1920).2, fun q => by omega⟩
      obtain ⟨a1, a2⟩ := hy c' w c0' (by omega) w0 w1
      exact ⟨a1, a2.mp, fun q => a2.mpr (GF_L0 q)⟩
    | succ n ih =>
      intro c y hc c0 fy hy
      apply B_X12_narrow_7
      refine ⟨by omega, fun q => by omega, fun _ => ?_⟩
      have inner : ∀ (j : Nat) (w : Int) (z : xMem), w + j = 120 → 0 ≤ w → FrX [119] [] m1 z → (∀ c' w', 0 ≤ c' → (c' < c ∨ (c' = c ∧ w' < w)) → 0 ≤ w' → w' < 120 → (z 119 (120 * c' + w') = 0 ∨ z 119 (120 * c' + w') = 1) ∧ (z 119 (120 * c' + w') = 1 ↔ L0 α t e c' w')) → K_X12_narrow_15 G l (d + 10) PV' c w z := by
        intro j
        induction j with
        | zero =>
          intro w z hw w0 fz hz
          apply B_X12_narrow_15
          exact ⟨by omega, fun _ => ih (c + 1) z (by omega) (by omega) fz (fun c' w' c0' c1' a b => hz c' w' c0' (by omega) a b), fun q => by omega⟩
        | succ j ihj =>
          intro w z hw w0 fz hz
          have h01 := (hG.1.1 c c0 (by omega)).1
          have nx : ∀ x, (x = 0 ∨ x = 1) → (x = 1 ↔ L0 α t e c w) → K_X12_narrow_15 G l (d + 10) PV' c (w + 1) (st2 z 119 (120 * c + w) x) := by
            intro x hx01 hxL
            refine ihj (w + 1) _ (by omega) (by omega) ((fz.tr (FrX.sa (k := 119))).sub (by decide) (by decide)) (fun c' w' c0' c1' a b => ?_)
            rw [st_i]
            by_cases e1 : 120 * c' + w' = 120 * c + w
            · rw [if_pos e1, show c' = c by omega, show w' = w by omega]; exact ⟨hx01, hxL⟩
            · rw [if_neg e1]; exact hz c' w' c0' (by omega) a b
          have hxz : mG α z := hx1.kept fz (by decide)
          have ecan : z 108 (120 * c + w) = ind (pos α c w t) := by rw [fz.k 108 (by decide), can c w c0 (by omega) w0 (by omega), pos_eq hA1]
          apply B_X12_narrow_15
          rw [hxz.2.2.2.2.1, ecan]
          refine ⟨by omega, fun q => by omega, fun _ => ⟨by omega, by omega, fun q => ⟨by omega, nx 0 (Or.inl rfl) ⟨fun q2 => absurd q2 (by decide), fun q2 => by have := q2.1.2.2; omega⟩⟩, fun q => ⟨by omega, by have := ind_01 (pos α c w t); omega, fun q2 => nx 0 (Or.inl rfl) ⟨fun q3 => absurd q3 (by decide), fun q3 => absurd q3.2.1 (ind_eq.mp q2)⟩, fun q2 => ?_⟩⟩⟩
          have hp := ind_ne.mp q2
          have hlit : lit α c := ⟨c0, by omega, by omega⟩
          obtain ⟨tl, p1, p2, p3, p4, p5⟩ := id hp
          refine s_mAgrees hG hW hxz (fun x x0 x1 => by rw [fz.k 113 (by decide)]; exact e113 x x0 x1) he hlit p2 p4 (fun r13 g13 => ⟨fun q3 => nx 0 (Or.inl rfl) ⟨fun q4 => absurd q4 (by decide), fun q4 => absurd q4.2.2 ((bit0 g13).mp q3)⟩, fun q3 => nx 1 (Or.inr rfl) ⟨fun _ => ⟨hlit, hp, (bitne g13).mp q3⟩, fun _ => rfl⟩⟩)
      exact inner 120 0 y (by omega) (by omega) fy (fun c' w' c0' c1' a b => hy c' w' c0' (by omega) a b)
  exact first 16 0 m1 (by omega) (by omega) FrX.rf (fun c' w c0' c1' => by omega)
end Narrow
