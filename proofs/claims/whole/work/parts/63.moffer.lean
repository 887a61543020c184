/-! the model: saying a name, offering it -/
section SpecMOffer
variable {G : xG} {l : Launch} {d : Nat} {μ ν α : xMem} {P : Int → xMem → Prop} {PV' : xMem → Prop}
def nm (T : Tri) : List Int := if T.1 = 0 then [] else T.2.2
def cs (T : Tri) : Int := if T.1 = 0 then 1000000 else T.2.1
/-- the name being said -/
def Dm (μ : xMem) (L : List Int) : Prop := μ 74 49 = L.length ∧ ∀ k : Nat, k < L.length → μ 106 k = chr (L.getD k 0)
/-- the best so far -/
def Cu (μ : xMem) (T : Tri) : Prop := μ 74 46 = cap 1000 T.1 ∧ μ 74 47 = cs T ∧ μ 74 48 = (nm T).length ∧ ∀ k : Nat, k < (nm T).length → μ 105 k = chr ((nm T).getD k 0)
def FmD (μ ν : xMem) : Prop := ∀ k i, k ≠ 106 → (k ≠ 74 ∨ i ≠ 49) → ν k i = μ k i
def FmC (μ ν : xMem) : Prop := ∀ k i, k ≠ 105 → k ≠ 106 → (k ≠ 74 ∨ (i ≠ 46 ∧ i ≠ 47 ∧ i ≠ 48 ∧ i ≠ 49)) → ν k i = μ k i
theorem FmD.rf : FmD μ μ := fun _ _ _ _ => rfl
theorem FmD.tr {m1 m2 m3 : xMem} (h1 : FmD m1 m2) (h2 : FmD m2 m3) : FmD m1 m3 := fun k i a b => (h2 k i a b).trans (h1 k i a b)
theorem FmC.rf : FmC μ μ := fun _ _ _ _ _ => rfl
theorem FmC.tr {m1 m2 m3 : xMem} (h1 : FmC m1 m2) (h2 : FmC m2 m3) : FmC m1 m3 := fun k i a b c => (h2 k i a b c).trans (h1 k i a b c)
theorem FmD.c (h : FmD μ ν) : FmC μ ν := fun k i _ b c => h k i b (by omega)
theorem Cu.kD {T : Tri} (h : Cu μ T) (hf : FmD μ ν) : Cu ν T := by
  obtain ⟨h1, h2, h3, h4⟩ := h
  exact ⟨by rw [hf 74 46 (by decide) (by decide)]; exact h1, by rw [hf 74 47 (by decide) (by decide)]; exact h2, by rw [hf 74 48 (by decide) (by decide)]; exact h3, fun k hk => by rw [hf 105 _ (by decide) (by simp)]; exact h4 k hk⟩
theorem j8_id {x : Int} (h : -128 ≤ x ∧ x ≤ 127) : j8 x = x := by unfold j8; omega
theorem s_mopen (h : ∀ ν, Dm ν [] → FmD μ ν → PV' ν) : CV G l (d + 1) mX12_open [xr G 74] μ PV' := by
  apply E_X12_open
  refine h _ ⟨by simp [st2], fun k hk => by simp at hk⟩ (fun k i a b => ?_)
  unfold st2
  grind
theorem s_clear (h : ∀ ν, Cu ν T0 → FmC μ ν → PV' ν) : CV G l (d + 1) mX12_clear [xr G 74] μ PV' := by
  apply E_X12_clear
  refine h _ ⟨by simp [st2, cap, T0], by simp [st2, cs, T0], by simp [st2, nm, T0], fun k hk => by simp [nm, T0] at hk⟩ (fun k i a b c => ?_)
  unfold st2
  grind
theorem s_say {L : List Int} {s c : Int} (hc : c = chr s) (hs : 0 ≤ s ∧ s ≤ 31) (hL : Dm μ L) (hl : L.length < 80) (h : ∀ ν, Dm ν (L ++ [s]) → FmD μ ν → PV' ν) : CV G l (d + 1) mX12_say [xr G 74, xi c] μ PV' := by
  obtain ⟨h1, h2⟩ := hL
  have hb := chr_b hs
  apply E_X12_say
  rw [h1, hc, j8_id (show -128 ≤ chr s ∧ chr s ≤ 127 by omega), j8_id (show -128 ≤ chr s ∧ chr s ≤ 127 by omega)]
  refine ⟨by omega, h _ ⟨by simp [st2], fun k hk => ?_⟩ (fun k i a b => by unfold st2; grind)⟩
  have e : (st2 (st2 μ 106 (L.length : Int) (chr s)) 74 49 ((L.length : Int) + 1)) 106 (k : Int) = if (k : Int) = (L.length : Int) then chr s else μ 106 k := by simp [st2]
  rw [e]
  by_cases c2 : k = L.length
  · rw [if_pos (by omega), c2]
    simp
  · rw [if_neg (by omega), h2 k (by simp at hk; omega)]
    congr 1
    simp at hk
    rw [List.getD_eq_getElem?_getD, List.getD_eq_getElem?_getD, List.getElem?_append_left (by omega)]
/-- a name held at a place -/
def Nb (kl kb : Nat) (μ : xMem) (x : Int) (N : List Int) : Prop := μ kl x = N.length ∧ ∀ k : Nat, k < N.length → μ kb (40 * x + k) = chr (N.getD k 0)
theorem Nb.kD {kl kb : Nat} {x : Int} {N : List Int} (h : Nb kl kb μ x N) (hf : FmD μ ν) (h1 : kl ≠ 106 ∧ kl ≠ 74) (h2 : kb ≠ 106 ∧ kb ≠ 74) : Nb kl kb ν x N := ⟨by rw [hf kl _ h1.1 (Or.inl h1.2)]; exact h.1, fun k hk => by rw [hf kb _ h2.1 (Or.inl h2.2)]; exact h.2 k hk⟩
theorem take_snoc (N : List Int) (k : Nat) (h : k < N.length) : N.take (k + 1) = N.take k ++ [N.getD k 0] := by
  rw [List.take_succ, List.getD_eq_getElem?_getD]
  rw [List.getElem?_eq_getElem h]
  rfl
theorem okN_get {N : List Int} (h : okN N) (k : Nat) : 0 ≤ N.getD k 0 ∧ N.getD k 0 ≤ 31 := by
  rw [List.getD_eq_getElem?_getD]
  cases e : N[k]? with
  | none => simp
  | some x => have := h x (List.mem_of_getElem? e); simp; omega
theorem s_sayRow {L N : List Int} {x : Int} (hx : 0 ≤ x ∧ x < 3960) (hN : okN N) (hn : N.length ≤ 40) (hR : Nb 97 99 μ x N) (hL : Dm μ L) (hl : L.length + N.length ≤ 80) (h : ∀ ν, Dm ν (L ++ N) → FmD μ ν → PV' ν) : CV G l (d + 2) mX12_sayRow [xr G 74, xi x] μ PV' := by
  apply E_X12_sayRow
  have main : ∀ (n k : Nat) (ν : xMem), k + n = N.length → Dm ν (L ++ N.take k) → FmD μ ν → K_X12_sayRow_2 G l (d + 2) PV' x (k : Int) ν := by
    intro n
    induction n with
    | zero =>
      intro k ν hk hD hf
      obtain ⟨r1, r2⟩ := hR.kD hf (by decide) (by decide)
      apply B_X12_sayRow_2
      rw [r1]
      refine ⟨hx, by omega, by omega, fun _ => h ν ?_ hf, fun z => by omega⟩
      rw [List.take_of_length_le (by omega)] at hD
      exact hD
    | succ n ih =>
      intro k ν hk hD hf
      obtain ⟨r1, r2⟩ := hR.kD hf (by decide) (by decide)
      apply B_X12_sayRow_2
      rw [r1]
      refine ⟨hx, by omega, by omega, fun z => by omega, fun z => ⟨by omega, s_say (s := N.getD k 0) (r2 k (by omega)) (okN_get hN k) hD (by simp; omega) (fun ν2 hD2 hf2 => ?_)⟩⟩
      rw [List.append_assoc, ← take_snoc N k (by omega)] at hD2
      have := ih (k + 1) ν2 (by omega) hD2 (hf.tr hf2)
      rw [show ((k + 1 : Nat) : Int) = (k : Int) + 1 by omega] at this
      exact this
  exact main N.length 0 μ (by omega) (by simpa using hL) FmD.rf
theorem s_sayPiece {L N : List Int} {x : Int} (hx : 0 ≤ x ∧ x < 3960) (hN : okN N) (hn : N.length ≤ 40) (hR : Nb 94 98 μ x N) (hL : Dm μ L) (hl : L.length + N.length ≤ 80) (h : ∀ ν, Dm ν (L ++ N) → FmD μ ν → PV' ν) : CV G l (d + 2) mX12_sayPiece [xr G 74, xi x] μ PV' := by
  apply E_X12_sayPiece
  have main : ∀ (n k : Nat) (ν : xMem), k + n = N.length → Dm ν (L ++ N.take k) → FmD μ ν → K_X12_sayPiece_2 G l (d + 2) PV' x (k : Int) ν := by
    intro n
    induction n with
    | zero =>
      intro k ν hk hD hf
      obtain ⟨r1, r2⟩ := hR.kD hf (by decide) (by decide)
      apply B_X12_sayPiece_2
      rw [r1]
      refine ⟨hx, by omega, by omega, fun _ => h ν ?_ hf, fun z => by omega⟩
      rw [List.take_of_length_le (by omega)] at hD
      exact hD
    | succ n ih =>
      intro k ν hk hD hf
      obtain ⟨r1, r2⟩ := hR.kD hf (by decide) (by decide)
      apply B_X12_sayPiece_2
      rw [r1]
      refine ⟨hx, by omega, by omega, fun z => by omega, fun z => ⟨by omega, s_say (s := N.getD k 0) (r2 k (by omega)) (okN_get hN k) hD (by simp; omega) (fun ν2 hD2 hf2 => ?_)⟩⟩
      rw [List.append_assoc, ← take_snoc N k (by omega)] at hD2
      have := ih (k + 1) ν2 (by omega) hD2 (hf.tr hf2)
      rw [show ((k + 1 : Nat) : Int) = (k : Int) + 1 by omega] at this
      exact this
  exact main N.length 0 μ (by omega) (by simpa using hL) FmD.rf
theorem get_pre {L N : List Int} (h : ∀ i, i < N.length → L.getD i 0 = N.getD i 0) (hl : N.length ≤ L.length) : ∃ C, L = N ++ C := by
  refine ⟨L.drop N.length, ?_⟩
  have e : L.take N.length = N := by
    refine List.ext_getElem? (fun i => ?_)
    by_cases c : i < N.length
    · have := h i c
      rw [List.getElem?_take_of_lt c]
      rw [List.getD_eq_getElem?_getD, List.getD_eq_getElem?_getD, List.getElem?_eq_getElem (show i < L.length by omega), List.getElem?_eq_getElem c] at this
      rw [List.getElem?_eq_getElem (show i < L.length by omega), List.getElem?_eq_getElem c]
      simpa using this
    · rw [List.getElem?_eq_none (show N.length ≤ i by omega), List.getElem?_eq_none (by simp; omega)]
  rw [← e, List.length_take, Nat.min_eq_left hl, List.take_append_drop]
theorem s_moffer {n c M m : Int} {T u : Tri} (hM : M ≤ 9) (hC : Cu μ T) (hT : vW M T) (hU : vW M u) (hTn : vN m T) (hUn : vN m u) (hn : 0 ≤ n ∧ n ≤ 1000000) (hcap : cap 1000 n = cap 1000 u.1) (hc : iR c) (hcu : u.1 ≠ 0 → c = u.2.1 ∧ Dm μ u.2.2) (h : ∀ ν, Cu ν (mg T u) → FmC μ ν → PV' ν) : CV G l (d + 1) mX12_offer [xr G 74, xi n, xi c] μ PV' := by
  obtain ⟨c1, c2, c3, c4⟩ := id hC
  have t0 := hT.1
  have u0 := hU.1
  have b46 : 0 ≤ μ 74 46 ∧ μ 74 46 ≤ 1000 := by rw [c1]; unfold cap; split <;> omega
  have hz : n = 0 ↔ u.1 = 0 := by unfold cap at hcap; grind
  have hcs : 0 ≤ cs T ∧ cs T ≤ 1000000 := by
    unfold cs
    split
    · omega
    · rename_i z; have := hT.2 z; omega
  apply E_X12_offer
  refine ⟨by omega, fun z => ?_, fun z => ?_⟩
  · have uz : u.1 ≠ 0 := fun e => z (hz.mpr e)
    obtain ⟨e1, d1, d2⟩ := hcu uz
    obtain ⟨q1, q2, q3, q4⟩ := hU.2 uz
    have su : (mg T u).1 = T.1 + u.1 := rfl
    have mz : (mg T u).1 ≠ 0 := by rw [su]; omega
    have hway : ∀ x, x = cap 1000 (μ 74 46 + n) → x = cap 1000 (mg T u).1 := by
      intro x hx
      rw [hx, su, c1]
      exact cap_add (by omega) t0 (by omega) (by omega) hcap
    -- it is not better
    have keep : ∀ x, x = cap 1000 (μ 74 46 + n) → (mg T u).2 = T.2 → T.1 ≠ 0 → PV' (st2 μ 74 46 x) := by
      intro x hx he tz
      refine h _ ⟨by simp [st2]; exact hway x hx, ?_, ?_, fun k hk => ?_⟩ (fun k i a b e => by unfold st2; grind)
      · have : cs (mg T u) = cs T := by unfold cs; rw [if_neg mz, if_neg tz, he]
        rw [this, ← c2]; simp [st2]
      · have : nm (mg T u) = nm T := by unfold nm; rw [if_neg mz, if_neg tz, he]
        rw [this, ← c3]; simp [st2]
      · have : nm (mg T u) = nm T := by unfold nm; rw [if_neg mz, if_neg tz, he]
        rw [this] at hk ⊢
        rw [← c4 k hk]; simp [st2]
    -- it is better
    have take : ∀ x, x = cap 1000 (μ 74 46 + n) → (mg T u).2 = u.2 → ∀ v3, v3 ≠ 0 → (v3 = 1) → K_X12_offer_147 G l (d + 1) PV' c v3 (st2 μ 74 46 x) := by
      intro x hx he v3 h3 h31
      apply B_X12_offer_147
      refine ⟨by omega, fun _ => ?_, fun z3 => absurd z3 h3⟩
      have e49 : (st2 μ 74 46 x) 74 49 = (u.2.2.length : Int) := by rw [← d1]; simp [st2]
      rw [e49]
      have main : ∀ (N k : Nat) (ν : xMem), k + N = u.2.2.length → ν 74 49 = (u.2.2.length : Int) → ν 74 46 = x → ν 74 47 = c → ν 74 48 = (u.2.2.length : Int) → (∀ q : Nat, q < u.2.2.length → ν 106 q = chr (u.2.2.getD q 0)) → (∀ q : Nat, q < k → ν 105 q = chr (u.2.2.getD q 0)) → FmC μ ν → K_X12_offer_168 G l (d + 1) PV' (k : Int) ν := by
        intro N
        induction N with
        | zero =>
          intro k ν hk y1 y2 y3 y4 y5 y6 y7
          apply B_X12_offer_168
          rw [y1]
          refine ⟨by omega, by omega, fun _ => h ν ⟨by rw [y2]; exact hway x hx, ?_, ?_, fun q hq => ?_⟩ y7, fun z => by omega⟩
          · unfold cs; rw [if_neg mz, he, y3]; exact e1
          · unfold nm; rw [if_neg mz, he]; exact y4
          · unfold nm at hq ⊢
            rw [if_neg mz, he] at hq ⊢
            exact y6 q (by omega)
        | succ N ih =>
          intro k ν hk y1 y2 y3 y4 y5 y6 y7
          have hb := chr_b (okN_get q1 k)
          apply B_X12_offer_168
          rw [y1, y5 k (by omega), j8_id (by omega)]
          refine ⟨by omega, by omega, fun z => by omega, fun z => ⟨by omega, by omega, ?_⟩⟩
          have := ih (k + 1) (st2 ν 105 k (chr (u.2.2.getD k 0))) (by omega) (by simp [st2]; exact y1) (by simp [st2]; exact y2) (by simp [st2]; exact y3) (by simp [st2]; exact y4) (fun q hq => by rw [← y5 q hq]; simp [st2]) (fun q hq => ?_) (fun k i a b e => by rw [← y7 k i a b e]; unfold st2; grind)
          · rw [show ((k + 1 : Nat) : Int) = (k : Int) + 1 by omega] at this
            exact this
          · have e : (st2 ν 105 (k : Int) (chr (u.2.2.getD k 0))) 105 (q : Int) = if (q : Int) = (k : Int) then chr (u.2.2.getD k 0) else ν 105 q := by simp [st2]
            rw [e]
            by_cases c : q = k
            · rw [if_pos (by omega), c]
            · rw [if_neg (by omega)]; exact y6 q (by omega)
      refine main u.2.2.length 0 _ (by omega) (by rw [← d1]; simp [st2]) (by simp [st2]) (by simp [st2]) (by simp [st2]) (fun q hq => by rw [← d2 q hq]; simp [st2]) (fun q hq => by omega) (fun k i a b e => by unfold st2; grind)
    have k30 : ∀ x, x = cap 1000 (μ 74 46 + n) → K_X12_offer_30 G l (d + 1) PV' c x μ := by
      intro x hx
      have b48 : ∀ ν', (st2 μ 74 46 x) = ν' → ν' 74 49 = (u.2.2.length : Int) ∧ ν' 74 48 = ((nm T).length : Int) ∧ (∀ q : Nat, q < u.2.2.length → ν' 106 q = chr (u.2.2.getD q 0)) ∧ (∀ q : Nat, q < (nm T).length → ν' 105 q = chr ((nm T).getD q 0)) := by
        intro ν' e
        subst e
        exact ⟨by rw [← d1]; simp [st2], by rw [← c3]; simp [st2], fun q hq => by rw [← d2 q hq]; simp [st2], fun q hq => by rw [← c4 q hq]; simp [st2]⟩
      apply B_X12_offer_30
      rw [c2]
      refine ⟨hc, by omega, fun z1 => ⟨fun z2 => ?_, fun z2 => ?_⟩, fun z1 => ?_⟩
      · -- the same cost: bytes decide
        have tz : T.1 ≠ 0 := fun e => by unfold cs at z2; rw [if_pos e] at z2; omega
        have ec : u.2.1 = T.2.1 := by unfold cs at z1 z2; rw [if_neg tz] at z1 z2; omega
        obtain ⟨p1, p2, p3, p4⟩ := hT.2 tz
        have en : nm T = T.2.2 := by unfold nm; rw [if_neg tz]
        have vt := hTn tz
        have vu := hUn uz
        obtain ⟨w1, w2, w3, w4⟩ := b48 _ rfl
        rw [en] at w2 w4
        have mg1 : cd 36 u.2.2 < cd 36 T.2.2 → (mg T u).2 = u.2 := fun hl => by unfold mg; simp only; rw [if_neg uz, if_pos (Or.inr (Or.inr ⟨ec, hl⟩))]
        have mg2 : ¬ cd 36 u.2.2 < cd 36 T.2.2 → (mg T u).2 = T.2 := fun hl => by unfold mg; simp only; rw [if_neg uz, if_neg (by omega)]
        have main : ∀ (N k : Nat), k + N = u.2.2.length → (∀ i, i < k → u.2.2.getD i 0 = T.2.2.getD i 0) → k ≤ T.2.2.length → K_X12_offer_59 G l (d + 1) PV' c 0 (k : Int) (st2 μ 74 46 x) := by
          intro N
          induction N with
          | zero =>
            intro k hk he hkt
            apply B_X12_offer_59
            rw [w1]
            refine ⟨by omega, by omega, fun _ => ?_, fun z => by omega⟩
            apply B_X12_offer_147
            refine ⟨by decide, fun z => absurd rfl z, fun _ => keep x hx ?_ tz⟩
            obtain ⟨C, hC2⟩ := get_pre (L := T.2.2) (N := u.2.2) (fun i hi => (he i (by omega)).symm) (by omega)
            rw [hC2] at vt
            have := val_pf vu vt
            rw [this, List.append_nil] at hC2
            exact mg2 (by rw [hC2]; omega)
          | succ N ih =>
            intro k hk he hkt
            have klt : k < T.2.2.length := by
              rcases (show k < T.2.2.length ∨ k = T.2.2.length by omega) with q | q
              · exact q
              · obtain ⟨C, hC2⟩ := get_pre (L := u.2.2) (N := T.2.2) (fun i hi => he i (by omega)) (by omega)
                rw [hC2] at vu
                have := val_pf vt vu
                rw [this, List.append_nil] at hC2
                rw [hC2] at hk
                omega
            have r1 := okN_get q1 k
            have r2 := okN_get p1 k
            have r3 := chr_b r1
            have r4 := chr_b r2
            have cl1 := chr_lt r1 r2
            have cl2 := chr_lt r2 r1
            apply B_X12_offer_59
            rw [w1, w2, w3 k (by omega), w4 k klt]
            refine ⟨by omega, by omega, fun z => by omega, fun _ => ⟨by decide, fun z => absurd rfl z, fun _ => ⟨by omega, fun z => by omega, fun _ => ⟨by omega, by omega, by omega, by omega, fun z3 => ?_, fun z3 => keep x hx (mg2 ?_) tz⟩⟩⟩⟩
            · apply B_X12_offer_99
              rw [w2, w3 k (by omega), w4 k klt]
              refine ⟨by omega, by omega, fun z => by omega, fun _ => ⟨by omega, by omega, by omega, by omega, fun z4 => ?_, fun z4 => ?_⟩⟩
              · apply B_X12_offer_130
                rw [w2]
                refine ⟨by omega, by omega, fun _ => ?_, fun z => by omega⟩
                have := ih (k + 1) (by omega) (fun i hi => by
                  rcases (show i < k ∨ i = k by omega) with q | q
                  · exact he i q
                  · rw [q]; omega) (by omega)
                rw [show ((k + 1 : Nat) : Int) = (k : Int) + 1 by omega] at this
                exact this
              · apply B_X12_offer_130
                rw [w2]
                refine ⟨by omega, by omega, fun _ => ?_, fun z => by omega⟩
                have hlt := cd_lt1 36 u.2.2 T.2.2 k q1 p1 (by omega) he (by omega)
                apply B_X12_offer_59
                rw [w1]
                exact ⟨by omega, by omega, fun _ => take x hx (mg1 hlt) 1 (by decide) rfl, fun _ => ⟨by decide, fun _ => take x hx (mg1 hlt) 1 (by decide) rfl, fun z => absurd z (by decide)⟩⟩
            · have hlt := cd_lt1 36 T.2.2 u.2.2 k p1 q1 (by omega) (fun i hi => (he i hi).symm) (by omega)
              omega
        exact main u.2.2.length 0 (by omega) (fun i hi => by omega) (by omega)
      · -- a lower cost
        have hm2 : (mg T u).2 = u.2 := by
          unfold mg
          simp only
          rw [if_neg uz]
          by_cases tz : T.1 = 0
          · rw [if_pos (Or.inl tz)]
          · unfold cs at z2
            rw [if_neg tz] at z2
            rw [if_pos (Or.inr (Or.inl (by omega)))]
        obtain ⟨w1, w2, w3, w4⟩ := b48 _ rfl
        apply B_X12_offer_59
        rw [w1]
        exact ⟨by decide, by omega, fun _ => take x hx hm2 1 (by decide) rfl, fun _ => ⟨by decide, fun _ => take x hx hm2 1 (by decide) rfl, fun z => absurd z (by decide)⟩⟩
      · have tz : T.1 ≠ 0 := fun e => by unfold cs at z1; rw [if_pos e] at z1; omega
        refine keep x hx ?_ tz
        unfold mg
        simp only
        unfold cs at z1
        rw [if_neg tz] at z1
        rw [if_neg uz, if_neg (by omega)]
    refine ⟨by omega, fun y => k30 _ ?_, fun y => k30 _ ?_⟩
    · unfold cap; split <;> omega
    · unfold cap; split <;> omega
  · have h9 := h μ
    rw [mg_0 T u (hz.mp z)] at h9
    exact h9 hC FmC.rf
end SpecMOffer
