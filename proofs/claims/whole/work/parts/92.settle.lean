/-! Solver: settle -/
section Settle
variable {G : xG} {l : Launch} {d : Nat} {μ ν α m y : xMem} {P : Int → xMem → Prop} {PV' : xMem → Prop} {N : Int}
theorem or_b26 {a pl : Nat} (hm : a < 2 ^ 26) (hp : pl < 26) : ∃ b : Nat, b < 2 ^ 26 ∧ jor (a : Int) (jshl 1 (pl : Int)) = (b : Int) ∧ ∀ q, b.testBit q = (a.testBit q || decide (pl = q)) := by
  have h1 := b_shl1 ⟨pl, by omega⟩
  simp only at h1
  have h2 : 2 ^ pl < 2 ^ 26 := Nat.pow_lt_pow_right (by decide) hp
  refine ⟨a ||| 2 ^ pl, Nat.or_lt_two_pow (n := 26) hm h2, ?_, fun q => ?_⟩
  · rw [h1, b_or (by omega) (by omega)]
  · rw [Nat.testBit_or, Nat.testBit_two_pow]
theorem mask26 {a pl : Nat} (hm : a < 2 ^ 26) (hp : pl < 26) : jand (a : Int) (jshl 1 (pl : Int)) = 0 ↔ a.testBit pl = false := by
  have h1 := b_shl1 ⟨pl, by omega⟩
  simp only at h1
  rw [h1, b_and (by omega)]
  constructor
  · intro h
    have h2 : a &&& 2 ^ pl = 0 := by omega
    have h3 : (a &&& 2 ^ pl).testBit pl = false := by rw [h2]; simp
    rw [Nat.testBit_and, Nat.testBit_two_pow_self] at h3
    simpa using h3
  · intro h
    have h2 : a &&& 2 ^ pl = 0 := by
      apply Nat.eq_of_testBit_eq
      intro i
      rw [Nat.testBit_and, Nat.testBit_two_pow]
      by_cases e : pl = i
      · subst e; simp [h]
      · simp [e]
    omega
theorem jor01 {x y : Int} (hx : x = 0 ∨ x = 1) (hy : y = 0 ∨ y = 1) : (jor x y = 0 ∨ jor x y = 1) ∧ (jor x y = 0 ↔ x = 0 ∧ y = 0) := by
  rcases hx with rfl | rfl <;> rcases hy with rfl | rfl <;> decide
def wl (α y : xMem) (c : Int) : Prop := (0 ≤ y 60 c ∧ y 60 c ≤ 120) ∧ (∀ i j, 0 ≤ i → i < j → j < y 60 c → y 59 (c * 120 + i) < y 59 (c * 120 + j)) ∧ ∀ i, 0 ≤ i → i < y 60 c → (0 ≤ y 59 (c * 120 + i) ∧ y 59 (c * 120 + i) < α 74 20) ∧ α 77 (y 59 (c * 120 + i)) = α 89 c
def Lx (y : xMem) (c w : Int) : Prop := ∃ i, 0 ≤ i ∧ i < y 60 c ∧ y 59 (c * 120 + i) = w
/-- the lists of the others are as they were -/
def oth1 (y y' : xMem) (c : Int) : Prop := ∀ c', 0 ≤ c' → c' < 16 → c' ≠ c → y' 60 c' = y 60 c' ∧ ∀ i, 0 ≤ i → i < 120 → y' 59 (c' * 120 + i) = y 59 (c' * 120 + i)
theorem oth1.lx {y' : xMem} {c c' w : Int} (h : oth1 y y' c) (h0 : 0 ≤ c') (h1 : c' < 16) (hne : c' ≠ c) (hs : y 60 c' ≤ 120) : Lx y' c' w ↔ Lx y c' w := by
  obtain ⟨o1, o2⟩ := h c' h0 h1 hne
  unfold Lx
  rw [o1]
  exact ⟨fun ⟨i, i0, i1, i2⟩ => ⟨i, i0, i1, by rw [← o2 i i0 (by omega)]; exact i2⟩, fun ⟨i, i0, i1, i2⟩ => ⟨i, i0, i1, by rw [o2 i i0 (by omega)]; exact i2⟩⟩
theorem oth1.ll {y' : xMem} {c c' : Int} (h : oth1 y y' c) (h0 : 0 ≤ c') (h1 : c' < 16) (hne : c' ≠ c) (hw : wl α y c') : wl α y' c' := by
  obtain ⟨o1, o2⟩ := h c' h0 h1 hne
  obtain ⟨a1, a2, a3⟩ := hw
  unfold wl
  rw [o1]
  exact ⟨a1, fun i j i0 ij j1 => by rw [o2 i i0 (by omega), o2 j (by omega) (by omega)]; exact a2 i j i0 ij j1, fun i i0 i1 => by rw [o2 i i0 (by omega)]; exact a3 i i0 i1⟩
theorem s_takePossible {c t : Int} {e : Int → Int} (hG : gG α) (hW : gW α) (hx : xG' α y) (hA : MA α m) (h52 : ∀ x, 0 ≤ x → x < 81 → y 52 x = e x) (he : eOk e) (hc : 0 ≤ c ∧ c < 16) (e41 : y 41 = m 41) (e42 : y 42 = m 42) (hl : lit α c → lok m c t)
    (h : ∀ y', FrX [59, 60] [] y y' → oth1 y y' c → wl α y' c → (∀ w, Lx y' c w ↔ L0 α t e c w) → PV' y') : CV G l (d + 3) mX10_takePossible [xr G 58, xi c] y PV' := by
  have hb := hW.1.1
  apply E_X10_takePossible
  refine ⟨hc, ?_⟩
  have f0 : FrX [59, 60] [] y (st2 y 60 c 0) := FrX.sa.sub (by decide) (by decide)
  by_cases hlit : lit α c
  · have l1 := hl hlit
    have e20 : m 74 20 = α 74 20 := hA.2 20 (by decide) (by decide)
    have main : ∀ (n : Nat) (v : Int) (z : xMem), v + n = m 42 c → 0 ≤ v → FrX [59, 60] [] y z → oth1 y z c → (0 ≤ z 60 c ∧ z 60 c ≤ v) → (∀ i, 0 ≤ i → i < z 60 c → ∃ j, 0 ≤ j ∧ j < v ∧ z 59 (c * 120 + i) = m 41 (c * 120 + j)) → (∀ i j, 0 ≤ i → i < j → j < z 60 c → z 59 (c * 120 + i) < z 59 (c * 120 + j)) → (∀ w, Lx z c w ↔ (∃ j, 0 ≤ j ∧ j < v ∧ m 41 (c * 120 + j) = w) ∧ agr α e c w) → K_X10_takePossible_9 G l (d + 3) PV' c v z := by
      intro n
      induction n with
      | zero =>
        intro v z hv v0 fz oz sz rz iz xz
        apply B_X10_takePossible_9
        refine s_hasLight hG (by rw [fz.k 49 (by decide)]; exact hx.2.2.1) (by omega) (fun r g => ⟨fun q => absurd hlit ((bit0 g).mp q), fun _ => ?_⟩)
        rw [fz.k 42 (by decide), e42]
        have lb := l1.1
        have fin : PV' z := by
          have xw : ∀ w, Lx z c w ↔ L0 α t e c w := fun w => by
            rw [xz w, show v = m 42 c by omega]
            constructor
            · rintro ⟨q1, q2⟩
              have p := (l1.2.2.2 w).mp q1
              rw [pos_eq hA] at p
              exact ⟨hlit, p, q2⟩
            · rintro ⟨_, p, q2⟩
              rw [← pos_eq hA] at p
              exact ⟨(l1.2.2.2 w).mpr p, q2⟩
          refine h z fz oz ⟨by omega, iz, fun i i0 i1 => L0_w ((xw _).mp ⟨i, i0, i1, rfl⟩)⟩ xw
        exact ⟨hc, by omega, by omega, fun _ => fin, fun q => by omega⟩
      | succ n ih =>
        intro v z hv v0 fz oz sz rz iz xz
        have lb := l1.1
        have lr := l1.2.2.1 v v0 (by omega)
        have p : pos α c (m 41 (c * 120 + v)) t := by rw [← pos_eq hA]; exact (l1.2.2.2 _).mp ⟨v, v0, by omega, rfl⟩
        have hlen : α 77 (m 41 (c * 120 + v)) = α 89 c := by obtain ⟨_, _, _, _, q, _⟩ := p; exact q
        apply B_X10_takePossible_9
        refine s_hasLight hG (by rw [fz.k 49 (by decide)]; exact hx.2.2.1) (by omega) (fun r g => ⟨fun q => absurd hlit ((bit0 g).mp q), fun _ => ?_⟩)
        rw [fz.k 42 (by decide), e42]
        refine ⟨hc, by omega, by omega, fun q => by omega, fun _ => ?_⟩
        apply E_X6_wordAt
        rw [fz.k 41 (by decide), e41]
        have xGz : xG' α z := ⟨by rw [fz.k 47 (by decide)]; exact hx.1, by rw [fz.k 48 (by decide)]; exact hx.2.1, by rw [fz.k 49 (by decide)]; exact hx.2.2.1, by rw [fz.k 53 (by decide)]; exact hx.2.2.2.1, by rw [fz.k 13 (by decide)]; exact hx.2.2.2.2⟩
        refine ⟨by omega, by omega, s_agrees hG hW xGz (fun x x0 x1 => by rw [fz.k 52 (by decide)]; exact h52 x x0 x1) he hlit (by omega) hlen (fun r1 g1 => ⟨fun q => ih (v + 1) z (by omega) (by omega) fz oz (by omega) (fun i i0 i1 => ?_) iz (fun w => ?_), fun q => ⟨by omega, ?_⟩⟩)⟩
        · obtain ⟨j, j0, j1, j2⟩ := rz i i0 i1
          exact ⟨j, j0, by omega, j2⟩
        · rw [xz w]
          refine and_congr_left (fun hag => ⟨fun ⟨j, j0, j1, j2⟩ => ⟨j, j0, by omega, j2⟩, fun ⟨j, j0, j1, j2⟩ => ?_⟩)
          rcases (show j < v ∨ j = v by omega) with y1 | y1
          · exact ⟨j, j0, y1, j2⟩
          · subst y1
            rw [j2] at g1
            exact absurd hag ((bit0 g1).mp q)
        · have hag := (bitne g1).mp q
          have f3 := (FrX.sa (μ := z) (k := 59) (i := c * 120 + z 60 c) (v := m 41 (c * 120 + v))).tr (FrX.sa (k := 60) (i := c) (v := z 60 c + 1))
          generalize hz3 : st2 (st2 z 59 (c * 120 + z 60 c) (m 41 (c * 120 + v))) 60 c (z 60 c + 1) = z3 at *
          have k59 : ∀ i, z3 59 i = if i = c * 120 + z 60 c then m 41 (c * 120 + v) else z 59 i := fun i => by rw [← hz3]; simp [st2]
          have k60 : ∀ i, z3 60 i = if i = c then z 60 c + 1 else z 60 i := fun i => by rw [← hz3]; simp [st2]
          have k60c : z3 60 c = z 60 c + 1 := by rw [k60, if_pos rfl]
          refine ih (v + 1) z3 (by omega) (by omega) ((fz.tr f3).sub (by decide) (by decide)) (fun c' c0 c1 hne => ?_) (by rw [k60c]; omega) (fun i i0 i1 => ?_) (fun i j i0 ij j1 => ?_) (fun w => ?_)
          · obtain ⟨o1, o2⟩ := oz c' c0 c1 hne
            rw [k60, if_neg hne]
            exact ⟨o1, fun i i0 i1 => by rw [k59, if_neg (by omega)]; exact o2 i i0 i1⟩
          · rw [k60c] at i1
            rw [k59]
            by_cases e1 : i = z 60 c
            · rw [if_pos (by omega)]; exact ⟨v, v0, by omega, rfl⟩
            · rw [if_neg (by omega)]
              obtain ⟨j, j0, j1, j2⟩ := rz i i0 (by omega)
              exact ⟨j, j0, by omega, j2⟩
          · rw [k60c] at j1
            rw [k59, k59, if_neg (by omega)]
            by_cases e1 : j = z 60 c
            · rw [if_pos (by omega)]
              obtain ⟨j', j0', j1', j2'⟩ := rz i i0 (by omega)
              rw [j2']
              exact l1.2.1 j' v j0' j1' (by omega)
            · rw [if_neg (by omega)]; exact iz i j i0 ij (by omega)
          · have xzw := xz w
            unfold Lx at xzw ⊢
            rw [k60c]
            constructor
            · rintro ⟨i, i0, i1, i2⟩
              rw [k59] at i2
              by_cases e1 : i = z 60 c
              · rw [if_pos (by omega)] at i2
                exact ⟨⟨v, v0, by omega, i2⟩, by rw [← i2]; exact hag⟩
              · rw [if_neg (by omega)] at i2
                obtain ⟨⟨j, j0, j1, j2⟩, q2⟩ := xzw.mp ⟨i, i0, by omega, i2⟩
                exact ⟨⟨j, j0, by omega, j2⟩, q2⟩
            · rintro ⟨⟨j, j0, j1, j2⟩, q2⟩
              rcases (show j < v ∨ j = v by omega) with y1 | y1
              · obtain ⟨i, i0, i1, i2⟩ := xzw.mpr ⟨⟨j, j0, y1, j2⟩, q2⟩
                exact ⟨i, i0, by omega, by rw [k59, if_neg (by omega)]; exact i2⟩
              · subst y1
                exact ⟨z 60 c, sz.1, by omega, by rw [k59, if_pos rfl]; exact j2⟩
    have z60 : (st2 y 60 c 0) 60 c = 0 := st_s _ _ _ _
    exact main (m 42 c).toNat 0 _ (by have := l1.1; omega) (by omega) f0 (fun c' c0 c1 hne => ⟨st_o _ _ _ _ _ hne, fun i _ _ => st_n _ _ _ _ _ _ (by decide)⟩) (by omega) (fun i i0 i1 => by omega) (fun i j i0 ij j1 => by omega) (fun w => ⟨fun ⟨i, i0, i1, _⟩ => by omega, fun ⟨⟨j, j0, j1, _⟩, _⟩ => by omega⟩)
  · apply B_X10_takePossible_9
    refine s_hasLight hG (by rw [st_f _ _ _ _ _ (by decide)]; exact hx.2.2.1) (by omega) (fun r g => ⟨fun _ => ?_, fun q => absurd ((bitne g).mp q) hlit⟩)
    have z60 : (st2 y 60 c 0) 60 c = 0 := st_s _ _ _ _
    exact h _ f0 (fun c' c0 c1 hne => ⟨st_o _ _ _ _ _ hne, fun i _ _ => st_n _ _ _ _ _ _ (by decide)⟩) ⟨by omega, fun i j i0 ij j1 => by omega, fun i i0 i1 => by omega⟩ (fun w => ⟨fun ⟨i, i0, i1, _⟩ => by omega, fun q => absurd q.1 hlit⟩)
theorem s_lettersLeft {o k : Int} (hW : gW α) (hx : xG' α y) (ho : 0 ≤ o ∧ o < 16) (hwl : wl α y o) (hk : 0 ≤ k ∧ k < α 89 o) (h : ∀ M : Nat, M < 2 ^ 26 → (∀ j : Nat, M.testBit j = true ↔ ∃ w, Lx y o w ∧ lt α w k = 97 + j) → P (M : Int) y) : CI G l (d + 2) mX10_lettersLeft [xr G 58, xi o, xi k] y P := by
  have hb := hW.1.1
  apply E_X10_lettersLeft
  have main : ∀ (n : Nat) (v : Int) (M : Nat), v + n = y 60 o → 0 ≤ v → M < 2 ^ 26 → (∀ j : Nat, M.testBit j = true ↔ ∃ i, 0 ≤ i ∧ i < v ∧ lt α (y 59 (o * 120 + i)) k = 97 + j) → K_X10_lettersLeft_5 G l (d + 2) P o k (M : Int) v y := by
    intro n
    induction n with
    | zero =>
      intro v M hv v0 hM hi
      have := hwl.1
      apply B_X10_lettersLeft_5
      refine ⟨ho, by omega, by omega, fun _ => ⟨by omega, h M hM (fun j => (hi j).trans ⟨fun ⟨i, i0, i1, i2⟩ => ⟨_, ⟨i, i0, by omega, rfl⟩, i2⟩, fun ⟨w, ⟨i, i0, i1, i2⟩, i3⟩ => ⟨i, i0, by omega, by rw [i2]; exact i3⟩⟩)⟩, fun z => by omega⟩
    | succ n ih =>
      intro v M hv v0 hM hi
      have h60 := hwl.1
      obtain ⟨w1, w2⟩ := hwl.2.2 v v0 (by omega)
      have lb := lt_b hW.1 w1 hk.1 (show k < α 77 (y 59 (o * 120 + v)) by omega)
      apply B_X10_lettersLeft_5
      refine ⟨ho, by omega, by omega, fun z => by omega, fun _ => ⟨by omega, s_letterAt hW hx w1 hk.1 (by omega) ?_⟩⟩
      obtain ⟨pl, hpl⟩ : ∃ pl : Nat, lt α (y 59 (o * 120 + v)) k - 97 = (pl : Int) := ⟨(lt α (y 59 (o * 120 + v)) k - 97).toNat, by omega⟩
      obtain ⟨b, b1, b2, b3⟩ := or_b26 (pl := pl) hM (by omega)
      rw [hpl, b2]
      refine ih (v + 1) b (by omega) (by omega) b1 (fun j => ?_)
      rw [b3, Bool.or_eq_true, decide_eq_true_eq, hi j]
      constructor
      · rintro (⟨i, i0, i1, i2⟩ | q)
        · exact ⟨i, i0, by omega, i2⟩
        · exact ⟨v, v0, by omega, by omega⟩
      · rintro ⟨i, i0, i1, i2⟩
        rcases (show i < v ∨ i = v by omega) with q | q
        · exact Or.inl ⟨i, i0, q, i2⟩
        · subst q; exact Or.inr (by omega)
  exact main (y 60 o).toNat 0 0 (by have := hwl.1; omega) (by omega) (by decide) (fun j => ⟨fun q => by simp at q, fun ⟨i, i0, i1, _⟩ => by omega⟩)
theorem s_check {c k : Int} {M : Nat} (hW : gW α) (hx : xG' α y) (hc : 0 ≤ c ∧ c < 16) (hwl : wl α y c) (hk : 0 ≤ k ∧ k < α 89 c) (hM : M < 2 ^ 26) (h : ∀ r y', FrX [59, 60] [] y y' → oth1 y y' c → wl α y' c → (∀ w, Lx y' c w ↔ (Lx y c w ∧ M.testBit (lt α w k - 97).toNat = true)) → ((r = 0 ∧ y' = y) ∨ (r = 1 ∧ y' 60 c < y 60 c)) → P r y') : CI G l (d + 2) mX10_check [xr G 58, xi c, xi k, xi (M : Int)] y P := by
  have hb := hW.1.1
  have h60 := hwl.1
  apply E_X10_check
  have main : ∀ (n : Nat) (v s : Int) (z : xMem), v + n = y 60 c → 0 ≤ s → s ≤ v → FrX [59] [] y z → (∀ i, (i < c * 120 ∨ c * 120 + 120 ≤ i ∨ c * 120 + v ≤ i) → z 59 i = y 59 i) → (∀ i, 0 ≤ i → i < s → ∃ j, 0 ≤ j ∧ j < v ∧ z 59 (c * 120 + i) = y 59 (c * 120 + j) ∧ M.testBit (lt α (y 59 (c * 120 + j)) k - 97).toNat = true) → (∀ i j, 0 ≤ i → i < j → j < s → z 59 (c * 120 + i) < z 59 (c * 120 + j)) → (∀ j, 0 ≤ j → j < v → M.testBit (lt α (y 59 (c * 120 + j)) k - 97).toNat = true → ∃ i, 0 ≤ i ∧ i < s ∧ z 59 (c * 120 + i) = y 59 (c * 120 + j)) → (s = v → z = y) → K_X10_check_6 G l (d + 2) P c k (M : Int) s v z := by
    intro n
    induction n with
    | zero =>
      intro v s z hv s0 sv fz oz rz iz cz ez
      have e60 : z 60 = y 60 := fz.k 60 (by decide)
      have fin : ∀ r, ((r = 0 ∧ s = v) ∨ (r = 1 ∧ s < v)) → K_X10_check_90 G l (d + 2) P c s r z := by
        intro r hr
        apply B_X10_check_90
        refine ⟨hc, by omega, h r (st2 z 60 c s) ((fz.tr (FrX.sa (k := 60))).sub (by decide) (by decide)) (fun c' c0 c1 hne => ⟨by rw [st_o _ _ _ _ _ hne, e60], fun i i0 i1 => by rw [st_n _ _ _ _ _ _ (by decide)]; exact oz _ (by omega)⟩) ?_ (fun w => ?_) ?_⟩
        · unfold wl
          rw [st_s, st_f _ _ _ _ _ (by decide)]
          refine ⟨by omega, iz, fun i i0 i1 => ?_⟩
          obtain ⟨j, j0, j1, j2, -⟩ := rz i i0 i1
          rw [j2]
          exact hwl.2.2 j j0 (by omega)
        · unfold Lx
          rw [st_s, st_f _ _ _ _ _ (by decide)]
          constructor
          · rintro ⟨i, i0, i1, i2⟩
            obtain ⟨j, j0, j1, j2, j3⟩ := rz i i0 i1
            rw [i2] at j2
            exact ⟨⟨j, j0, by omega, j2.symm⟩, by rw [j2]; exact j3⟩
          · rintro ⟨⟨j, j0, j1, j2⟩, q⟩
            rw [← j2] at q
            obtain ⟨i, i0, i1, i2⟩ := cz j j0 (by omega) q
            exact ⟨i, i0, i1, by rw [i2]; exact j2⟩
        · rcases hr with ⟨q1, q2⟩ | ⟨q1, q2⟩
          · refine Or.inl ⟨q1, ?_⟩
            rw [ez q2]
            funext k' i'
            unfold st2
            split
            · rename_i q; rw [q.1, q.2]; omega
            · rfl
          · exact Or.inr ⟨q1, by rw [st_s]; omega⟩
      apply B_X10_check_6
      rw [e60]
      exact ⟨hc, by omega, by omega, fun _ => ⟨by omega, fun q => fin 0 (Or.inl ⟨rfl, by omega⟩), fun q => fin 1 (Or.inr ⟨rfl, by omega⟩)⟩, fun q => by omega⟩
    | succ n ih =>
      intro v s z hv s0 sv fz oz rz iz cz ez
      have e60 : z 60 = y 60 := fz.k 60 (by decide)
      have ev : z 59 (c * 120 + v) = y 59 (c * 120 + v) := oz _ (by omega)
      obtain ⟨w1, w2⟩ := hwl.2.2 v (by omega) (by omega)
      have lb := lt_b hW.1 w1 hk.1 (show k < α 77 (y 59 (c * 120 + v)) by omega)
      have xGz : xG' α z := ⟨by rw [fz.k 47 (by decide)]; exact hx.1, by rw [fz.k 48 (by decide)]; exact hx.2.1, by rw [fz.k 49 (by decide)]; exact hx.2.2.1, by rw [fz.k 53 (by decide)]; exact hx.2.2.2.1, by rw [fz.k 13 (by decide)]; exact hx.2.2.2.2⟩
      apply B_X10_check_6
      rw [e60, ev]
      refine ⟨hc, by omega, by omega, fun q => by omega, fun _ => ⟨by omega, s_letterAt hW xGz w1 hk.1 (by omega) ?_⟩⟩
      obtain ⟨pl, hpl⟩ : ∃ pl : Nat, lt α (y 59 (c * 120 + v)) k - 97 = (pl : Int) := ⟨(lt α (y 59 (c * 120 + v)) k - 97).toNat, by omega⟩
      have hmk := mask26 (pl := pl) hM (by omega)
      rw [hpl]
      refine ⟨fun q => ih (v + 1) s z (by omega) s0 (by omega) fz (fun i hi => oz i (by omega)) (fun i i0 i1 => ?_) iz (fun j j0 j1 jq => ?_) (fun q2 => by omega), fun q => ⟨by omega, ?_⟩⟩
      · obtain ⟨j, j0, j1, j2⟩ := rz i i0 i1
        exact ⟨j, j0, by omega, j2⟩
      · rcases (show j < v ∨ j = v by omega) with q2 | q2
        · exact cz j j0 q2 jq
        · subst q2
          rw [hpl] at jq
          have := hmk.mp q
          simp at jq
          rw [this] at jq
          exact absurd jq (by decide)
      · have qb : M.testBit (lt α (y 59 (c * 120 + v)) k - 97).toNat = true := by
          rw [hpl]
          simp
          rcases hcs : M.testBit pl with _ | _
          · exact absurd (hmk.mpr hcs) q
          · rfl
        refine ih (v + 1) (s + 1) _ (by omega) (by omega) (by omega) ((fz.tr (FrX.sa (k := 59))).sub (by decide) (by decide)) (fun i hi => ?_) (fun i i0 i1 => ?_) (fun i j i0 ij j1 => ?_) (fun j j0 j1 jq => ?_) (fun q2 => ?_)
        · rw [st_i, if_neg (by omega)]; exact oz i (by omega)
        · rw [st_i]
          by_cases e1 : i = s
          · rw [if_pos (by omega)]; exact ⟨v, by omega, by omega, rfl, qb⟩
          · rw [if_neg (by omega)]
            obtain ⟨j, j0, j1, j2⟩ := rz i i0 (by omega)
            exact ⟨j, j0, by omega, j2⟩
        · rw [st_i, st_i, if_neg (show ¬ c * 120 + i = c * 120 + s by omega)]
          by_cases e1 : j = s
          · rw [if_pos (by omega)]
            obtain ⟨j', j0', j1', j2', -⟩ := rz i i0 (by omega)
            rw [j2']
            exact hwl.2.1 j' v j0' j1' (by omega)
          · rw [if_neg (by omega)]; exact iz i j i0 ij (by omega)
        · rcases (show j < v ∨ j = v by omega) with q2 | q2
          · obtain ⟨i, i0, i1, i2⟩ := cz j j0 q2 jq
            exact ⟨i, i0, by omega, by rw [st_i, if_neg (by omega)]; exact i2⟩
          · subst q2
            exact ⟨s, s0, by omega, by rw [st_s]⟩
        · have e1 : s = v := by omega
          subst e1
          rw [ez rfl]
          funext k' i'
          unfold st2
          split
          · rename_i q; rw [q.1, q.2]
          · rfl
  exact main (y 60 c).toNat 0 0 y (by omega) (by omega) (by omega) FrX.rf (fun i _ => rfl) (fun i i0 i1 => by omega) (fun i j i0 ij j1 => by omega) (fun j j0 j1 _ => by omega) (fun _ => rfl)
/-- how many words all lists have -/
def tS (y : xMem) : Nat → Int
  | 0 => 0
  | n + 1 => tS y n + y 60 n
theorem tS_upd {y' : xMem} {c : Int} (h : oth1 y y' c) (hc : 0 ≤ c ∧ c < 16) : ∀ n : Nat, n ≤ 16 → tS y' n = tS y n + (if c < n then y' 60 c - y 60 c else 0)
  | 0, _ => by rw [tS, tS, if_neg (by omega)]; rfl
  | n + 1, hn => by
    rw [tS, tS, tS_upd h hc n (by omega)]
    by_cases e : (n : Int) = c
    · rw [if_neg (by omega), if_pos (by omega), e]; omega
    · rw [(h n (by omega) (by omega) e).1]
      by_cases e2 : c < (n : Int)
      · rw [if_pos e2, if_pos (by omega)]; omega
      · rw [if_neg e2, if_neg (by omega)]; omega
theorem tS_b : ∀ n : Nat, n ≤ 16 → (∀ c, 0 ≤ c → c < 16 → wl α y c) → 0 ≤ tS y n ∧ tS y n ≤ 120 * n
  | 0, _, _ => by rw [tS]; omega
  | n + 1, hn, h => by
    have := tS_b n (by omega) h
    have := (h n (by omega) (by omega)).1
    rw [tS]
    omega
/-- the state of settling -/
def SI (α : xMem) (t : Int) (e : Int → Int) (m y : xMem) : Prop := FrX [59, 60] [] m y ∧ ∀ c, 0 ≤ c → c < 16 → wl α y c ∧ (∀ w, Lx y c w → L0 α t e c w) ∧ ∀ w, GF α t e c w → Lx y c w
theorem s_checkAll {c t : Int} {e : Int → Int} (hG : gG α) (hW : gW α) (hx : xG' α m) (hc : 0 ≤ c ∧ c < 16) (hs : SI α t e m y) (h : ∀ r y', SI α t e m y' → (r = 0 ∨ r = 1) → (r = 0 → y' = y ∧ ∀ w, Lx y c w → brn α (Lx y) c w) → tS y' 16 ≤ tS y 16 → (r ≠ 0 → tS y' 16 < tS y 16) → P r y') : CI G l (d + 3) mX10_checkAll [xr G 58, xi c] y P := by
  apply E_X10_checkAll
  have main : ∀ (n : Nat) (v r : Int) (z : xMem), v + n = 16 → 0 ≤ v → (r = 0 ∨ r = 1) → SI α t e m z → (r = 0 → z = y ∧ ∀ w, Lx y c w → ∀ o k k', o < v → crs α c o k k' → ∃ x, Lx y o x ∧ lt α x k' = lt α w k) → tS z 16 ≤ tS y 16 → (r ≠ 0 → tS z 16 < tS y 16) → K_X10_checkAll_4 G l (d + 3) P c r v z := by
    intro n
    induction n with
    | zero =>
      intro v r z hv v0 hr hz h0 h1 h2
      apply B_X10_checkAll_4
      refine ⟨by omega, fun _ => ⟨hr, h r z hz hr (fun q => ⟨(h0 q).1, fun w hw o k k' hq => (h0 q).2 w hw o k k' (by have := hq.2.1.2.1; omega) hq⟩) h1 h2⟩, fun q => by omega⟩
    | succ n ih =>
      intro v r z hv v0 hr hz h0 h1 h2
      obtain ⟨fz, cz⟩ := id hz
      have xGz : xG' α z := ⟨by rw [fz.k 47 (by decide)]; exact hx.1, by rw [fz.k 48 (by decide)]; exact hx.2.1, by rw [fz.k 49 (by decide)]; exact hx.2.2.1, by rw [fz.k 53 (by decide)]; exact hx.2.2.2.1, by rw [fz.k 13 (by decide)]; exact hx.2.2.2.2⟩
      have hv16 : 0 ≤ v ∧ v < 16 := by omega
      apply B_X10_checkAll_4
      refine ⟨by omega, fun q => by omega, fun _ => s_crossingOf hG xGz hc hv16 (fun r5 g5 => ⟨fun q5 => ih (v + 1) r z (by omega) (by omega) hr hz (fun q => ⟨(h0 q).1, fun w hw o k k' ho hq => ?_⟩) h1 h2, fun q5 => s_crossingOf hG xGz hc hv16 (fun r9 g9 => s_crossingOf hG xGz hv16 hc (fun r11 g11 => ?_))⟩)⟩
      · rcases (show o < v ∨ o = v by omega) with q2 | q2
        · exact (h0 q).2 w hw o k k' q2 hq
        · subst q2
          rcases g5 with g | g
          · exact absurd hq (g.2 k k')
          · exact absurd q5 g.1
      · obtain ⟨k5, c5⟩ : ∃ k', crs α c v r5 k' := by
          rcases g5 with g | g
          · exact absurd g.1 q5
          · exact g.2
        have c9 : crs α c v r9 r11 := by
          rcases g9 with g | ⟨_, k', g⟩
          · exact absurd c5 (g.2 _ _)
          · rcases g11 with g2 | ⟨_, k2, g2⟩
            · exact absurd (crs_symm g) (g2.2 _ _)
            · have u := crs_uniq hG.1 g (crs_symm g2)
              rw [u.2] at g
              exact g
        have b9 := c9.2.2.2.1
        have b11 := c9.2.2.2.2.1
        obtain ⟨wc, lc, gc⟩ := cz c hc.1 hc.2
        obtain ⟨wo, lo, go⟩ := cz v hv16.1 hv16.2
        refine s_lettersLeft hW xGz hv16 wo b11 (fun M hM hMb => s_check hW xGz hc wc b9 hM (fun r15 z' f' o' w' x' e' => ?_))
        have hne : v ≠ c := fun q => c9.2.2.1 (by rw [q])
        have r15b : r15 = 0 ∨ r15 = 1 := by rcases e' with q | q <;> omega
        obtain ⟨j1, j2⟩ := jor01 hr r15b
        have tu := tS_upd o' hc 16 (by decide)
        rw [if_pos (by omega)] at tu
        have bitq : ∀ w, Lx z c w → (M.testBit (lt α w r9 - 97).toNat = true ↔ ∃ x, Lx z v x ∧ lt α x r11 = lt α w r9) := by
          intro w hw
          obtain ⟨lw1, lw2⟩ := L0_w (lc w hw)
          have lb := lt_b hW.1 lw1 b9.1 (show r9 < α 77 w by omega)
          rw [hMb]
          refine exists_congr (fun x => and_congr_right (fun _ => ?_))
          omega
        have sz' : y = y → z' 60 c ≤ z 60 c := fun _ => by rcases e' with ⟨_, q⟩ | ⟨_, q⟩; (rw [q]; exact Int.le_refl _); omega
        refine ih (v + 1) (jor r r15) z' (by omega) (by omega) j1 ⟨(fz.tr f').sub (by decide) (by decide), fun c' c0 c1 => ?_⟩ (fun q => ?_) (by have := sz' rfl; omega) (fun q => ?_)
        · by_cases ec : c' = c
          · subst ec
            refine ⟨w', fun w hw => lc w ((x' w).mp hw).1, fun w hw => (x' w).mpr ⟨gc w hw, (bitq w (gc w hw)).mpr ?_⟩⟩
            obtain ⟨x, x1, x2⟩ := GF_b hw v r9 r11 c9
            exact ⟨x, go x x1, x2⟩
          · obtain ⟨a1, a2, a3⟩ := cz c' c0 c1
            refine ⟨o'.ll c0 c1 ec a1, fun w hw => a2 w ((o'.lx c0 c1 ec a1.1.2).mp hw), fun w hw => (o'.lx c0 c1 ec a1.1.2).mpr (a3 w hw)⟩
        · obtain ⟨q1, q2⟩ := j2.mp q
          obtain ⟨h01, h02⟩ := h0 q1
          have ez : z' = z := by
            rcases e' with e1 | e1
            · exact e1.2
            · omega
          refine ⟨by rw [ez]; exact h01, fun w hw o k k' ho hq => ?_⟩
          rcases (show o < v ∨ o = v by omega) with q3 | q3
          · exact h02 w hw o k k' q3 hq
          · subst q3
            obtain ⟨u1, u2⟩ := crs_uniq hG.1 hq c9
            rw [u1, u2]
            rw [← h01] at hw ⊢
            have hw' : Lx z' c w := by rw [ez]; exact hw
            exact (bitq w hw).mp ((x' w).mp hw').2
        · rcases e' with ⟨q1, q2⟩ | ⟨q1, q2⟩
          · have : r ≠ 0 := fun e1 => q (j2.mpr ⟨e1, q1⟩)
            have := h2 this
            rw [q2] at tu ⊢
            exact this
          · omega
  exact main 16 0 0 y (by omega) (by omega) (Or.inl rfl) hs (fun _ => ⟨rfl, fun w _ o k k' ho hq => by have := hq.2.1.1; omega⟩) (Int.le_refl _) (fun q => absurd rfl q)
theorem s_settle {t : Int} {e : Int → Int} (hG : gG α) (hW : gW α) (hx : xG' α m) (hA : MA α m) (h52 : ∀ x, 0 ≤ x → x < 81 → m 52 x = e x) (he : eOk e) (hl : ∀ c, lit α c → lok m c t)
    (h : ∀ y, FrX [59, 60] [] m y → (∀ c, 0 ≤ c → c < 16 → wl α y c ∧ ∀ w, Lx y c w ↔ GF α t e c w) → PV' y) : CV G l (d + 4) mX10_settle [xr G 58] m PV' := by
  apply E_X10_settle
  -- the rounds
  have rounds : ∀ (T : Nat) (v2 : Int) (y : xMem), SI α t e m y → tS y 16 ≤ T → tS y 16 + v2 ≤ 1920 → 0 ≤ v2 → K_X10_settle_23 G l (d + 4) PV' 1 v2 y := by
    intro T
    induction T with
    | zero =>
      intro v2 y hs hT hv v0
      have tb := tS_b 16 (by decide) (fun c c0 c1 => (hs.2 c c0 c1).1)
      apply B_X10_settle_23
      refine ⟨by decide, fun q => absurd q (by decide), fun _ => ⟨by omega, fun q => by omega, fun _ => ?_⟩⟩
      have inner : ∀ (n : Nat) (c r : Int) (z : xMem), c + n = 16 → 0 ≤ c → (r = 0 ∨ r = 1) → SI α t e m z → (r = 0 → z = y ∧ ∀ c' w, 0 ≤ c' → c' < c → Lx y c' w → brn α (Lx y) c' w) → tS z 16 ≤ tS y 16 → (r ≠ 0 → tS z 16 < tS y 16) → K_X10_settle_38 G l (d + 4) PV' r v2 c z := by
        intro n
        induction n with
        | zero =>
          intro c r z hcn c0 hr hz h0 h1 h2
          apply B_X10_settle_38
          refine ⟨by omega, fun _ => ?_, fun q => by omega⟩
          apply B_X10_settle_23
          have tz := tS_b 16 (by decide) (fun c c0 c1 => (hz.2 c c0 c1).1)
          refine ⟨by omega, fun q => ?_, fun q => by have := h2 q; omega⟩
          obtain ⟨e1, e2⟩ := h0 q
          subst e1
          refine h z hz.1 (fun c' c0 c1 => ⟨(hz.2 c' c0 c1).1, fun w => ⟨fun q2 => GF_max (L := fun c w => (0 ≤ c ∧ c < 16) ∧ Lx z c w) (fun c w q => (hz.2 c q.1.1 q.1.2).2.1 w q.2) (fun c w q o k k' hq => ?_) ⟨⟨c0, c1⟩, q2⟩, (hz.2 c' c0 c1).2.2 w⟩⟩)
          obtain ⟨x, x1, x2⟩ := e2 c w q.1.1 (by omega) q.2 o k k' hq
          exact ⟨x, ⟨⟨hq.2.1.1, hq.2.1.2.1⟩, x1⟩, x2⟩
        | succ n ih =>
          intro c r z hcn c0 hr hz h0 h1 h2
          apply B_X10_settle_38
          refine ⟨by omega, fun q => by omega, fun _ => s_checkAll hG hW hx ⟨c0, by omega⟩ hz (fun r4 z' hz' hr4 g0 g1 g2 => ?_)⟩
          obtain ⟨j1, j2⟩ := jor01 hr hr4
          refine ih (c + 1) (jor r r4) z' (by omega) (by omega) j1 hz' (fun q => ?_) (by omega) (fun q => ?_)
          · obtain ⟨q1, q2⟩ := j2.mp q
            obtain ⟨a1, a2⟩ := h0 q1
            obtain ⟨b1, b2⟩ := g0 q2
            subst a1
            refine ⟨b1, fun c' w c0' c1' hw => ?_⟩
            rcases (show c' < c ∨ c' = c by omega) with y1 | y1
            · exact a2 c' w c0' y1 hw
            · subst y1; exact b2 w hw
          · by_cases q1 : r4 = 0
            · have := h2 (fun q2 => q (j2.mpr ⟨q2, q1⟩)); omega
            · have := g2 q1; omega
      exact inner 16 0 0 y (by omega) (by omega) (Or.inl rfl) hs (fun _ => ⟨rfl, fun c' w c0' c1' => by omega⟩) (Int.le_refl _) (fun q => absurd rfl q)
    | succ T ihT =>
      intro v2 y hs hT hv v0
      have tb := tS_b 16 (by decide) (fun c c0 c1 => (hs.2 c c0 c1).1)
      apply B_X10_settle_23
      refine ⟨by decide, fun q => absurd q (by decide), fun _ => ⟨by omega, fun q => by omega, fun _ => ?_⟩⟩
      have inner : ∀ (n : Nat) (c r : Int) (z : xMem), c + n = 16 → 0 ≤ c → (r = 0 ∨ r = 1) → SI α t e m z → (r = 0 → z = y ∧ ∀ c' w, 0 ≤ c' → c' < c → Lx y c' w → brn α (Lx y) c' w) → tS z 16 ≤ tS y 16 → (r ≠ 0 → tS z 16 < tS y 16) → K_X10_settle_38 G l (d + 4) PV' r v2 c z := by
        intro n
        induction n with
        | zero =>
          intro c r z hcn c0 hr hz h0 h1 h2
          apply B_X10_settle_38
          refine ⟨by omega, fun _ => ?_, fun q => by omega⟩
          by_cases q : r = 0
          · apply B_X10_settle_23
            refine ⟨by omega, fun _ => ?_, fun q2 => absurd q q2⟩
            obtain ⟨e1, e2⟩ := h0 q
            subst e1
            refine h z hz.1 (fun c' c0 c1 => ⟨(hz.2 c' c0 c1).1, fun w => ⟨fun q2 => GF_max (L := fun c w => (0 ≤ c ∧ c < 16) ∧ Lx z c w) (fun c w q => (hz.2 c q.1.1 q.1.2).2.1 w q.2) (fun c w q o k k' hq => ?_) ⟨⟨c0, c1⟩, q2⟩, (hz.2 c' c0 c1).2.2 w⟩⟩)
            obtain ⟨x, x1, x2⟩ := e2 c w q.1.1 (by omega) q.2 o k k' hq
            exact ⟨x, ⟨⟨hq.2.1.1, hq.2.1.2.1⟩, x1⟩, x2⟩
          · have q1 : r = 1 := by omega
            subst q1
            have := h2 (by decide)
            exact ihT (v2 + 1) z hz (by omega) (by omega) (by omega)
        | succ n ih =>
          intro c r z hcn c0 hr hz h0 h1 h2
          apply B_X10_settle_38
          refine ⟨by omega, fun q => by omega, fun _ => s_checkAll hG hW hx ⟨c0, by omega⟩ hz (fun r4 z' hz' hr4 g0 g1 g2 => ?_)⟩
          obtain ⟨j1, j2⟩ := jor01 hr hr4
          refine ih (c + 1) (jor r r4) z' (by omega) (by omega) j1 hz' (fun q => ?_) (by omega) (fun q => ?_)
          · obtain ⟨q1, q2⟩ := j2.mp q
            obtain ⟨a1, a2⟩ := h0 q1
            obtain ⟨b1, b2⟩ := g0 q2
            subst a1
            refine ⟨b1, fun c' w c0' c1' hw => ?_⟩
            rcases (show c' < c ∨ c' = c by omega) with y1 | y1
            · exact a2 c' w c0' y1 hw
            · subst y1; exact b2 w hw
          · by_cases q1 : r4 = 0
            · have := h2 (fun q2 => q (j2.mpr ⟨q2, q1⟩)); omega
            · have := g2 q1; omega
      exact inner 16 0 0 y (by omega) (by omega) (Or.inl rfl) hs (fun _ => ⟨rfl, fun c' w c0' c1' => by omega⟩) (Int.le_refl _) (fun q => absurd rfl q)
  -- the lists at first
  have first : ∀ (n : Nat) (v : Int) (y : xMem), v + n = 16 → 0 ≤ v → FrX [59, 60] [] m y → (∀ c, 0 ≤ c → c < v → wl α y c ∧ ∀ w, Lx y c w ↔ L0 α t e c w) → K_X10_settle_2 G l (d + 4) PV' v y := by
    intro n
    induction n with
    | zero =>
      intro v y hv v0 fy hy
      apply B_X10_settle_2
      refine ⟨by omega, fun _ => ?_, fun q => by omega⟩
      have hs : SI α t e m y := ⟨fy, fun c c0 c1 => ⟨(hy c c0 (by omega)).1, fun w hw => ((hy c c0 (by omega)).2 w).mp hw, fun w hw => ((hy c c0 (by omega)).2 w).mpr (GF_L0 hw)⟩⟩
      have tb := tS_b 16 (by decide) (fun c c0 c1 => (hs.2 c c0 c1).1)
      exact rounds 1920 0 y hs (by omega) (by omega) (by omega)
    | succ n ih =>
      intro v y hv v0 fy hy
      have xGy : xG' α y := ⟨by rw [fy.k 47 (by decide)]; exact hx.1, by rw [fy.k 48 (by decide)]; exact hx.2.1, by rw [fy.k 49 (by decide)]; exact hx.2.2.1, by rw [fy.k 53 (by decide)]; exact hx.2.2.2.1, by rw [fy.k 13 (by decide)]; exact hx.2.2.2.2⟩
      apply B_X10_settle_2
      refine ⟨by omega, fun q => by omega, fun _ => s_takePossible hG hW xGy hA (fun x x0 x1 => by rw [fy.k 52 (by decide)]; exact h52 x x0 x1) he ⟨v0, by omega⟩ (fy.k 41 (by decide)) (fy.k 42 (by decide)) (hl v) (fun y' f' o' w' x' => ih (v + 1) y' (by omega) (by omega) ((fy.tr f').sub (by decide) (by decide)) (fun c c0 c1 => ?_))⟩
      rcases (show c < v ∨ c = v by omega) with q | q
      · obtain ⟨a1, a2⟩ := hy c c0 q
        exact ⟨o'.ll c0 (by omega) (by omega) a1, fun w => (o'.lx c0 (by omega) (by omega) a1.1.2).trans (a2 w)⟩
      · subst q; exact ⟨w', x'⟩
  exact first 16 0 m (by omega) (by omega) FrX.rf (fun c c0 c1 => by omega)
end Settle
