/-! the ways to fill all: as numbers; the class -/
section Fill
variable {G : xG} {l : Launch} {d : Nat} {μ ν α m y z : xMem} {P : Int → xMem → Prop} {PV' : xMem → Prop} {N t : Int}
noncomputable def cite {T : Type} (p : Prop) (a b : T) : T := @ite T p (Classical.propDecidable p) a b
theorem cite_t {T : Type} {p : Prop} {a b : T} (h : p) : cite p a b = a := by unfold cite; exact if_pos h
theorem cite_f {T : Type} {p : Prop} {a b : T} (h : ¬ p) : cite p a b = b := by unfold cite; exact if_neg h
/-- ways, tries, the first way -/
abbrev xSt : Type := Int × Int × (Int → Int)
def stp (s : xSt) : Prop := 1000 ≤ s.1 ∨ 20000 < s.2.1
def note' (ch : Int → Int) (s : xSt) : xSt := (s.1 + 1, s.2.1, if s.1 = 0 then ch else s.2.2)
def setc (ch : Int → Int) (c w : Int) : Int → Int := fun i => if i = c then w else ch i
def fit2 (α : xMem) (ch : Int → Int) (c w : Int) : Prop := ∀ o k k', o < c → crs α c o k k' → lt α w k = lt α (ch o) k'
noncomputable def stW (α : xMem) (c w : Int) (g : (Int → Int) → xSt → xSt) (ch : Int → Int) (s : xSt) : xSt := cite (20000 < s.2.1 + 1) (s.1, s.2.1 + 1, s.2.2) (cite (fit2 α ch c w) (g (setc ch c w) (s.1, s.2.1 + 1, s.2.2)) (s.1, s.2.1 + 1, s.2.2))
noncomputable def lpK (α : xMem) (t c : Int) (g : (Int → Int) → xSt → xSt) (ch : Int → Int) : Nat → xSt → xSt
  | 0, s => s
  | k + 1, s => lpK α t c g ch k (cite (pos α c (α 74 20 - (k + 1 : Nat)) t ∧ ¬ stp s) (stW α c (α 74 20 - (k + 1 : Nat)) g ch s) s)
noncomputable def dfs (α : xMem) (t : Int) : Nat → (Int → Int) → xSt → xSt
  | 0, ch, s => note' ch s
  | n + 1, ch, s => cite (lit α (16 - (n + 1 : Nat))) (lpK α t (16 - (n + 1 : Nat)) (dfs α t n) ch (α 74 20).toNat s) (dfs α t n ch s)
theorem lpK_stop {c : Int} {g : (Int → Int) → xSt → xSt} {ch : Int → Int} : ∀ (k : Nat) (s : xSt), stp s → lpK α t c g ch k s = s
  | 0, _, _ => rfl
  | k + 1, s, h => by rw [lpK, cite_f (fun q => q.2 h), lpK_stop k s h]
/-- what is chosen up to c is well -/
def chk (α : xMem) (t : Int) (ch : Int → Int) (c : Int) : Prop := ∀ o, 0 ≤ o → o < c → (lit α o → pos α o (ch o) t) ∧ (¬ lit α o → ch o = -1)
def sok (s : xSt) : Prop := (0 ≤ s.1 ∧ s.1 ≤ 1000) ∧ (0 ≤ s.2.1 ∧ s.2.1 ≤ 20001) ∧ (s.1 ≠ 0 → ∀ i, 0 ≤ i → i < 16 → -1 ≤ s.2.2 i ∧ s.2.2 i < 120)
/-- the class's numbers -/
def XS (z : xMem) (s : xSt) : Prop := z 58 8 = s.1 ∧ z 58 9 = s.2.1 ∧ (s.1 ≠ 0 → ∀ i, 0 ≤ i → i < 16 → z 62 i = s.2.2 i)
theorem pos_w {c w : Int} (h : pos α c w t) : (0 ≤ w ∧ w < α 74 20) ∧ α 77 w = α 89 c := by
  obtain ⟨tl, _, q2, _, q4, _⟩ := h
  exact ⟨q2, q4⟩
theorem s_fits {c : Int} {ch : Int → Int} (hG : gG α) (hW : gW α) (hx : xG' α z) (hc : lit α c) (hch : chk α t ch c) (h61 : ∀ o, 0 ≤ o → o < c → z 61 o = ch o) {w : Int} (hw : z 61 c = w) (hp : pos α c w t) (h : ∀ r, bit r (fit2 α ch c w) → P r z) : CI G l (d + 2) mX10_fits [xr G 58, xi c] z P := by
  obtain ⟨p1, p2⟩ := pos_w hp
  have c0 := hc.1
  have c1 := hc.2.1
  apply E_X10_fits
  have main : ∀ (n : Nat) (v : Int), v + n = c → 0 ≤ v → (∀ o k k', o < v → crs α c o k k' → lt α w k = lt α (ch o) k') → K_X10_fits_2 G l (d + 2) P c v z := by
    intro n
    induction n with
    | zero =>
      intro v hv v0 hi
      apply B_X10_fits_2
      exact ⟨by omega, by omega, fun _ => h 1 (Or.inl ⟨rfl, fun o k k' ho q => hi o k k' (by omega) q⟩), fun q => by omega⟩
    | succ n ih =>
      intro v hv v0 hi
      have nx : (∀ k k', crs α c v k k' → lt α w k = lt α (ch v) k') → K_X10_fits_2 G l (d + 2) P c (v + 1) z := fun hq => ih (v + 1) (by omega) (by omega) (fun o k k' ho q => by
        rcases (show o < v ∨ o = v by omega) with q2 | q2
        · exact hi o k k' q2 q
        · subst q2; exact hq k k' q)
      apply B_X10_fits_2
      refine ⟨by omega, by omega, fun q => by omega, fun _ => s_crossingOf hG hx ⟨c0, c1⟩ ⟨v0, by omega⟩ (fun r5 g5 => ⟨fun q => nx (fun k k' q2 => ?_), fun q => ?_⟩)⟩
      · rcases g5 with g | g
        · exact absurd q2 (g.2 k k')
        · exact absurd q g.1
      · obtain ⟨k5, c5⟩ : ∃ k', crs α c v r5 k' := by
          rcases g5 with g | g
          · exact absurd g.1 q
          · exact g.2
        have b5 := c5.2.2.2.1
        have bk := c5.2.2.2.2.1
        have lo := c5.2.1
        have pv := (hch v v0 (by omega)).1 lo
        obtain ⟨pv1, pv2⟩ := pos_w pv
        rw [hw]
        refine ⟨⟨c0, c1⟩, s_letterAt hW hx p1 b5.1 (by omega) ⟨⟨v0, by omega⟩, s_crossingOf hG hx ⟨v0, by omega⟩ ⟨c0, c1⟩ (fun r13 g13 => ?_)⟩⟩
        have e13 : r13 = k5 := by
          rcases g13 with g | ⟨_, k2, g⟩
          · exact absurd (crs_symm c5) (g.2 _ _)
          · exact (crs_uniq hG.1 g (crs_symm c5)).1
        rw [e13, h61 v v0 (by omega)]
        refine s_letterAt hW hx pv1 bk.1 (by omega) ⟨fun q2 => nx (fun k k' q3 => ?_), fun q2 => h 0 (Or.inr ⟨rfl, fun q3 => q2 (q3 v r5 k5 (by omega) c5)⟩)⟩
        obtain ⟨u1, u2⟩ := crs_uniq hG.1 q3 c5
        rw [u1, u2]; exact q2
  exact main c.toNat 0 (by omega) (by omega) (fun o k k' ho q => by have := q.2.1.1; omega)
/-- the class fills from the (16 - n)-th light on -/
theorem s_fillFrom (hG : gG α) (hW : gW α) (hA : MA α m) (hx : xG' α m) (hl : ∀ c, lit α c → lok m c t) : ∀ (n : Nat), n ≤ 16 → ∀ (z : xMem) (ch : Int → Int) (s : xSt) (PV' : xMem → Prop), FrX [61, 62] [(58, 8), (58, 9)] m z → XS z s → sok s → ¬ stp s → chk α t ch (16 - n) → (∀ o, 0 ≤ o → o < 16 - (n : Int) → z 61 o = ch o) → (∀ o, 0 ≤ o → o < 16 → ¬ lit α o → z 61 o = -1) → (∀ o, 16 - (n : Int) ≤ o → o < 16 → ch o = -1) →
    (∀ z', FrX [61, 62] [(58, 8), (58, 9)] m z' → XS z' (dfs α t n ch s) → sok (dfs α t n ch s) → (∀ o, 0 ≤ o → o < 16 - (n : Int) → z' 61 o = z 61 o) → (∀ o, 0 ≤ o → o < 16 → ¬ lit α o → z' 61 o = -1) → PV' z') → CV G l (d + n + 3) mX10_fillFrom [xr G 58, xi (16 - (n : Int))] z PV' := by
  have hb := hW.1.1
  intro n
  induction n with
  | zero =>
    intro hn z ch s PV' fz hs hsok hns hch h61 hun hch2 h
    have e8 := hs.1
    have b1 := hsok.1
    apply E_X10_fillFrom
    refine ⟨by decide, fun q => absurd q (by decide), fun _ => ?_⟩
    apply E_X10_noteWay
    have ns : s.1 < 1000 := by unfold stp at hns; omega
    have hsk : sok (note' ch s) := by
      refine ⟨by unfold note'; simp only; omega, hsok.2.1, fun _ i i0 i1 => ?_⟩
      unfold note'
      simp only
      split
      · have := hch i i0 (by omega)
        by_cases q : lit α i
        · have := (pos_w (this.1 q)).1
          omega
        · rw [this.2 q]; omega
      · rename_i q; exact hsok.2.2 q i i0 i1
    rw [e8]
    refine ⟨by omega, fun q => h _ ((fz.tr FrX.st).sub (by decide) (by decide)) ⟨st_s _ _ _ _, by rw [st_o _ _ _ _ _ (by decide)]; exact hs.2.1, fun _ i i0 i1 => ?_⟩ hsk (fun o _ _ => st_n _ _ _ _ _ _ (by decide)) (fun o o0 o1 ho => by rw [st_n _ _ _ _ _ _ (by decide)]; exact hun o o0 o1 ho), fun q => h _ ((fz.tr ((FrX.cp (kd := 62)).tr (FrX.st (k := 58) (i := 8)))).sub (by decide) (by decide)) ⟨st_s _ _ _ _, ?_, fun _ i i0 i1 => ?_⟩ hsk (fun o _ _ => by simp [st2, cpy]) (fun o o0 o1 ho => by simp [st2, cpy]; exact hun o o0 o1 ho)⟩
    · rw [st_n _ _ _ _ _ _ (by decide)]
      show z 62 i = (if s.1 = 0 then ch else s.2.2) i
      rw [if_neg q]
      exact hs.2.2 q i i0 i1
    · simp [st2, cpy]; exact hs.2.1
    · show _ = (if s.1 = 0 then ch else s.2.2) i
      rw [if_pos q, ← h61 i i0 (by omega)]
      simp [st2, cpy]
      intro q1
      omega
  | succ n ih =>
    intro hn z ch s PV' fz hs hsok hns hch h61 hun hch2 h
    have nx1 : (16 : Int) - ((n + 1 : Nat) : Int) + 1 = 16 - (n : Int) := by omega
    generalize hcc : (16 : Int) - ((n + 1 : Nat) : Int) = c at *
    have hc16 : 0 ≤ c ∧ c < 16 := by omega
    apply E_X10_fillFrom
    refine ⟨by omega, fun _ => s_hasLight hG (by rw [fz.k 49 (by decide)]; exact hx.2.2.1) (by omega) (fun r4 g4 => ⟨fun q => ?_, fun q => ?_⟩), fun q => by omega⟩
    · have hlit := (bitne g4).mp q
      have l1 := hl c hlit
      have e20 : m 74 20 = α 74 20 := hA.2 20 (by decide) (by decide)
      have ed : dfs α t (n + 1) ch s = lpK α t c (dfs α t n) ch (α 74 20).toNat s := by rw [dfs, hcc, cite_t hlit]
      rw [ed] at h
      have loop : ∀ (k : Nat) (v j : Int) (z1 : xMem) (s1 : xSt), v + k = α 74 20 → 0 ≤ v → En (fun i => m 41 (c * 120 + i)) (m 42 c) v j → FrX [61, 62] [(58, 8), (58, 9)] m z1 → XS z1 s1 → sok s1 → (∀ o, 0 ≤ o → o < c → z1 61 o = z 61 o) → (∀ o, 0 ≤ o → o < 16 → ¬ lit α o → z1 61 o = -1) → (∀ z', FrX [61, 62] [(58, 8), (58, 9)] m z' → XS z' (lpK α t c (dfs α t n) ch k s1) → sok (lpK α t c (dfs α t n) ch k s1) → (∀ o, 0 ≤ o → o < c → z' 61 o = z 61 o) → (∀ o, 0 ≤ o → o < 16 → ¬ lit α o → z' 61 o = -1) → PV' z') → K_X10_fillFrom_32 G l (d + n + 1 + 3) PV' c j z1 := by
        intro k
        induction k with
        | zero =>
          intro v j z1 s1 hv v0 he f1 x1 k1 o1 u1 hP
          have hj := En_end he (fun i i0 i1 => by have := l1.2.2.1 i i0 i1; omega)
          have := l1.1
          apply B_X10_fillFrom_32
          rw [f1.k 42 (by decide)]
          exact ⟨hc16, by omega, by omega, fun _ => hP z1 f1 x1 k1 o1 u1, fun q => by omega⟩
        | succ k ihk =>
          intro v j z1 s1 hv v0 he f1 x1 k1 o1 u1 hP
          have ew : α 74 20 - ((k + 1 : Nat) : Int) = v := by omega
          rw [lpK, ew] at hP
          by_cases hst : stp s1
          · -- stopped
            rw [cite_f (fun q => q.2 hst), lpK_stop k s1 hst] at hP
            have := l1.1
            have hjb := he.1
            have hfin := hP z1 f1 x1 k1 o1 u1
            have kb1 := k1.1
            have kb2 := k1.2.1
            unfold stp at hst
            apply B_X10_fillFrom_32
            rw [f1.k 42 (by decide), x1.1, x1.2.1]
            exact ⟨hc16, by omega, by omega, fun _ => hfin, fun _ => ⟨by omega, fun _ => hfin, fun _ => ⟨by omega, fun _ => hfin, fun _ => by omega⟩⟩⟩
          · by_cases hp : pos α c v t
            · -- a word
              rw [cite_t ⟨hp, hst⟩] at hP
              have hp' : pos m c v t := by rw [pos_eq hA]; exact hp
              obtain ⟨e1, e2, e3⟩ := En_y l1.2.1 he ((l1.2.2.2 v).mpr hp')
              have hjb := he.1
              have lb := l1.1
              have kb1 := k1.1
              have kb2 := k1.2.1
              have nst : s1.1 < 1000 ∧ s1.2.1 ≤ 20000 := by unfold stp at hst; omega
              apply B_X10_fillFrom_32
              rw [f1.k 42 (by decide), x1.1, x1.2.1]
              refine ⟨hc16, by omega, by omega, fun q => by omega, fun _ => ⟨by omega, fun q => by omega, fun _ => ⟨by omega, fun q => by omega, fun _ => ?_⟩⟩⟩
              apply E_X6_wordAt
              have e41 : (st2 z1 58 9 (s1.2.1 + 1)) 41 = m 41 := by rw [st_f _ _ _ _ _ (by decide)]; exact f1.k 41 (by decide)
              rw [e41, e1]
              have f2 := (FrX.st (μ := z1) (k := 58) (i := 9) (v := s1.2.1 + 1)).tr (FrX.sa (k := 61) (i := c) (v := v))
              have f12 : FrX [61, 62] [(58, 8), (58, 9)] m (st2 (st2 z1 58 9 (s1.2.1 + 1)) 61 c v) := (f1.tr f2).sub (by decide) (by decide)
              have x2 : XS (st2 (st2 z1 58 9 (s1.2.1 + 1)) 61 c v) (s1.1, s1.2.1 + 1, s1.2.2) := ⟨by rw [st_n _ _ _ _ _ _ (by decide), st_o _ _ _ _ _ (by decide)]; exact x1.1, by rw [st_n _ _ _ _ _ _ (by decide), st_s], fun q i i0 i1 => by rw [st_n _ _ _ _ _ _ (by decide), st_n _ _ _ _ _ _ (by decide)]; exact x1.2.2 q i i0 i1⟩
              have k2 : sok (s1.1, s1.2.1 + 1, s1.2.2) := ⟨kb1, by simp only; omega, k1.2.2⟩
              have o2 : ∀ o, 0 ≤ o → o < c → (st2 (st2 z1 58 9 (s1.2.1 + 1)) 61 c v) 61 o = z 61 o := fun o o0 oc => by rw [st_o _ _ _ _ _ (by omega), st_n _ _ _ _ _ _ (by decide)]; exact o1 o o0 oc
              have u2 : ∀ o, 0 ≤ o → o < 16 → ¬ lit α o → (st2 (st2 z1 58 9 (s1.2.1 + 1)) 61 c v) 61 o = -1 := fun o o0 o16 ho => by rw [st_o _ _ _ _ _ (fun q => ho (by rw [q]; exact hlit)), st_n _ _ _ _ _ _ (by decide)]; exact u1 o o0 o16 ho
              have xv : (st2 (st2 z1 58 9 (s1.2.1 + 1)) 61 c v) 61 c = v := st_s _ _ _ _
              rw [st_s]
              generalize hz2 : st2 (st2 z1 58 9 (s1.2.1 + 1)) 61 c v = z2 at *
              refine ⟨by omega, by omega, by omega, fun q => ?_, fun q => ?_⟩
              · unfold stW at hP
                rw [cite_t q] at hP
                exact ihk (v + 1) (j + 1) z2 _ (by omega) (by omega) e3 f12 x2 k2 o2 u2 hP
              · unfold stW at hP
                rw [cite_f (by omega)] at hP
                have xG2 : xG' α z2 := ⟨by rw [f12.k 47 (by decide)]; exact hx.1, by rw [f12.k 48 (by decide)]; exact hx.2.1, by rw [f12.k 49 (by decide)]; exact hx.2.2.1, by rw [f12.k 53 (by decide)]; exact hx.2.2.2.1, by rw [f12.k 13 (by decide)]; exact hx.2.2.2.2⟩
                refine s_fits hG hW xG2 hlit hch (fun o o0 oc => by rw [o2 o o0 oc]; exact h61 o o0 oc) xv hp (fun r17 g17 => ⟨fun q2 => ?_, fun q2 => ?_⟩)
                · rw [cite_f ((bit0 g17).mp q2)] at hP
                  exact ihk (v + 1) (j + 1) z2 _ (by omega) (by omega) e3 f12 x2 k2 o2 u2 hP
                · rw [cite_t ((bitne g17).mp q2)] at hP
                  rw [nx1]
                  refine ih (by omega) z2 (setc ch c v) _ _ f12 x2 k2 (by unfold stp; simp only; omega) (fun o o0 oc => ?_) (fun o o0 oc => ?_) u2 (fun o oc o16 => ?_) (fun z' f' x' k' o' u' => ihk (v + 1) (j + 1) z' _ (by omega) (by omega) e3 f' x' k' (fun o o0 oc => ?_) u' hP)
                  · unfold setc
                    by_cases e : o = c
                    · rw [if_pos e]; exact ⟨fun _ => by rw [e]; exact hp, fun q3 => absurd (by rw [e]; exact hlit) q3⟩
                    · rw [if_neg e]; exact hch o o0 (by omega)
                  · unfold setc
                    by_cases e : o = c
                    · rw [if_pos e, e]; exact xv
                    · rw [if_neg e, o2 o o0 (by omega)]; exact h61 o o0 (by omega)
                  · unfold setc
                    rw [if_neg (by omega)]; exact hch2 o (by omega) o16
                  · rw [o' o o0 (by omega)]; exact o2 o o0 oc
            · rw [cite_f (fun q => hp q.1)] at hP
              refine ihk (v + 1) j z1 s1 (by omega) (by omega) (En_n he (fun q => hp ?_)) f1 x1 k1 o1 u1 hP
              have := (l1.2.2.2 v).mp q
              rw [pos_eq hA] at this
              exact this
      exact loop (α 74 20).toNat 0 0 z s (by omega) (by omega) (En_0 l1.1.1 (fun i i0 i1 => (l1.2.2.1 i i0 i1).1)) fz hs hsok (fun o _ _ => rfl) hun h
    · have hlit := (bit0 g4).mp q
      have ed : dfs α t (n + 1) ch s = dfs α t n ch s := by rw [dfs, hcc, cite_f hlit]
      rw [ed] at h
      have chc : ch c = -1 := hch2 c (Int.le_refl _) (by omega)
      rw [nx1]
      refine ih (by omega) z ch s _ fz hs hsok hns (fun o o0 oc => ?_) (fun o o0 oc => ?_) hun (fun o oc o16 => hch2 o (by omega) o16) (fun z' f' x' k' o' u' => h z' f' x' k' (fun o o0 oc => o' o o0 (by omega)) u')
      · rcases (show o < c ∨ o = c by omega) with e | e
        · exact hch o o0 e
        · subst e; exact ⟨fun q3 => absurd q3 hlit, fun _ => chc⟩
      · rcases (show o < c ∨ o = c by omega) with e | e
        · exact h61 o o0 e
        · subst e; rw [chc]; exact hun o o0 (by omega) hlit
end Fill
