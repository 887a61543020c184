/-! Sheet: shuffles, hidden ones, the aim, taking a clue and an answer -/
section SpecSheet3
variable {G : xG} {l : Launch} {d : Nat} {μ α : xMem} {P : Int → xMem → Prop} {PV' : xMem → Prop} {tl w t : Int}
theorem st_mono (hw : wfW α) (hS : shW α tl t μ) : ∀ (a b : Nat), a ≤ b → (b : Int) ≤ α 87 tl → stN α tl a ≤ stN α tl b := by
  obtain ⟨s1, s2, s3, -⟩ := hS
  intro a b hab
  induction b with
  | zero => intro _; rw [show a = 0 by omega]; exact Int.le_refl _
  | succ b ih =>
    intro hb
    rcases (show a = b + 1 ∨ a ≤ b by omega) with e | e
    · rw [e]; exact Int.le_refl _
    · have h1 := ih e (by omega)
      have h2 := s3 b (by omega) (by omega)
      have h3 := (hw.2 _ h2.2.1 h2.2.2.1).1
      rw [stN]
      omega
theorem st_find (hw : wfW α) (hS : shW α tl t μ) : ∀ (n : Nat), (n : Int) ≤ α 87 tl → ∀ m : Int, 0 ≤ m → m < stN α tl n → ∃ (p : Nat) (k : Int), p < n ∧ 0 ≤ k ∧ k < α 77 (cwd α tl p) ∧ m = stN α tl p + k := by
  intro n
  induction n with
  | zero => intro _ m m0 m1; simp [stN] at m1; omega
  | succ n ih =>
    intro hn m m0 m1
    rcases (show m < stN α tl n ∨ stN α tl n ≤ m by omega) with c | c
    · obtain ⟨p, k, h1, h2⟩ := ih (by omega) m m0 c
      exact ⟨p, k, by omega, h2⟩
    · rw [stN] at m1
      exact ⟨n, m - stN α tl n, by omega, by omega, by omega, by omega⟩
theorem tx_eq (hw : wfW α) (hS : shW α tl t μ) {m : Int} (m0 : 0 ≤ m) (m1 : m < stF α tl (α 87 tl)) : μ 36 m = txF α tl m ∧ 97 ≤ txF α tl m ∧ txF α tl m ≤ 122 := by
  obtain ⟨s1, s2, s3, s4, s5, -⟩ := id hS
  obtain ⟨p, k, h1, h2, h3, rfl⟩ := st_find hw hS (α 87 tl).toNat (by omega) m m0 m1
  have hp := s3 p (by omega) (by omega)
  have hl := hw.2 _ hp.2.1 hp.2.2.1
  have e : txF α tl (stN α tl p + k) = α 76 (10 * cwd α tl p + k) := stN_tx _ p k h1 h2 h3 (fun q hq => by
    have hq2 := s3 q (by omega) (by omega)
    have := (hw.2 _ hq2.2.1 hq2.2.2.1).1
    omega)
  rw [e]
  exact ⟨s5 p k (by omega) h2 h3, hl.2 k h2 h3⟩
theorem st_at (hS : shW α tl t μ) {p : Int} (hp : 0 ≤ p ∧ p ≤ α 87 tl) : μ 37 p = stF α tl p := by
  have := hS.2.2.2.1 p.toNat (by omega)
  rw [show ((p.toNat : Nat) : Int) = p by omega] at this
  exact this
theorem st_le (hw : wfW α) (hS : shW α tl t μ) {p q : Int} (h0 : 0 ≤ p) (h1 : p ≤ q) (h2 : q ≤ α 87 tl) : stF α tl p ≤ stF α tl q := st_mono hw hS p.toNat q.toNat (by omega) (by omega)
theorem st_0 (hw : wfW α) (hS : shW α tl t μ) {p : Int} (h0 : 0 ≤ p) (h2 : p ≤ α 87 tl) : 0 ≤ stF α tl p ∧ stF α tl p ≤ 80 := by
  have h := sh_bound hw hS p.toNat (by omega)
  have hs := hS.2.1
  unfold stF
  omega
theorem st_succ {p : Int} (h0 : 0 ≤ p) : stF α tl (p + 1) = stF α tl p + α 77 (cwd α tl p) := by
  unfold stF
  rw [show (p + 1).toNat = p.toNat + 1 by omega, stN, show ((p.toNat : Nat) : Int) = p by omega]
/-- a letter's tally -/
def ltl (c : Int) : Int := if c < 110 then ((2 ^ (4 * (c - 97).toNat) : Nat) : Int) else 0
def lth (c : Int) : Int := if c < 110 then 0 else ((2 ^ (4 * (c - 110).toNat) : Nat) : Int)
theorem s_lowTally {c : Int} (hc : 97 ≤ c ∧ c ≤ 122) (h : P (ltl c) μ) : CL G l (d + 1) mX9_lowTally [xr G 33, xi c] μ P := by
  apply E_X9_lowTally
  refine ⟨by omega, fun z => ?_, fun z => ?_⟩
  · rw [ltl, if_neg (by omega)] at h; exact h
  · have h1 := b_l1 ⟨(c - 97).toNat, by omega⟩
    simp only at h1
    rw [show (((c - 97).toNat : Nat) : Int) = c - 97 by omega] at h1
    rw [ltl, if_pos z, ← h1] at h
    exact h
theorem s_highTally {c : Int} (hc : 97 ≤ c ∧ c ≤ 122) (h : P (lth c) μ) : CL G l (d + 1) mX9_highTally [xr G 33, xi c] μ P := by
  apply E_X9_highTally
  refine ⟨by omega, fun z => ?_, fun z => ?_⟩
  · have h1 := b_l1 ⟨(c - 110).toNat, by omega⟩
    simp only at h1
    rw [show (((c - 110).toNat : Nat) : Int) = c - 110 by omega] at h1
    rw [lth, if_neg (by omega), ← h1] at h
    exact h
  · rw [lth, if_pos z] at h; exact h
def pol (f : Int → Int) (b : Int) : Nat → Int
  | 0 => 0
  | n + 1 => f b + 16 * pol f (b + 1) n
theorem pol_0 {f : Int → Int} : ∀ (n : Nat) (b : Int), (∀ c, b ≤ c → c < b + n → -15 ≤ f c ∧ f c ≤ 15) → (pol f b n = 0 ↔ ∀ c, b ≤ c → c < b + n → f c = 0)
  | 0, b, _ => ⟨fun _ c h1 h2 => by omega, fun _ => rfl⟩
  | n + 1, b, hb => by
    have ih := pol_0 (f := f) n (b + 1) (fun c h1 h2 => hb c (by omega) (by omega))
    have h0 := hb b (by omega) (by omega)
    rw [pol]
    constructor
    · intro h c h1 h2
      have e0 : f b = 0 := by omega
      have e1 : pol f (b + 1) n = 0 := by omega
      rcases (show c = b ∨ b + 1 ≤ c by omega) with z | z
      · rw [z]; exact e0
      · exact ih.mp e1 c z (by omega)
    · intro h
      rw [h b (by omega) (by omega), ih.mpr (fun c h1 h2 => h c (by omega) (by omega))]
      decide
theorem pol_add {f g : Int → Int} : ∀ (n : Nat) (b : Int), pol (fun c => f c + g c) b n = pol f b n + pol g b n
  | 0, b => rfl
  | n + 1, b => by rw [pol, pol, pol, pol_add n (b + 1)]; omega
theorem pol_ind {x : Int} : ∀ (n : Nat) (b : Int), pol (fun c => ind (x = c)) b n = if b ≤ x ∧ x < b + n then ((2 ^ (4 * (x - b).toNat) : Nat) : Int) else 0
  | 0, b => by rw [pol, if_neg (by omega)]
  | n + 1, b => by
    rw [pol, pol_ind n (b + 1)]
    by_cases h : x = b
    · rw [ind_t h, if_neg (by omega), if_pos (by omega), show (x - b).toNat = 0 by omega]
      decide
    · rw [ind_f h]
      by_cases h2 : b ≤ x ∧ x < b + (n + 1 : Nat)
      · rw [if_pos (by omega), if_pos h2, show 4 * (x - b).toNat = 4 * (x - (b + 1)).toNat + 4 by omega, Nat.pow_add]
        simp
        omega
      · rw [if_neg (by omega), if_neg h2]
        decide
theorem pol_congr {f g : Int → Int} : ∀ (n : Nat) (b : Int), (∀ c, f c = g c) → pol f b n = pol g b n
  | 0, b, _ => rfl
  | n + 1, b, h => by rw [pol, pol, h, pol_congr n (b + 1) h]
theorem cnF_nn {F : Int → Int} {c : Int} : ∀ n : Nat, 0 ≤ cnF F c n ∧ cnF F c n ≤ n
  | 0 => ⟨Int.le_refl _, Int.le_refl _⟩
  | n + 1 => by
    have := cnF_nn (F := F) (c := c) n
    rw [cnF]
    rcases ind_01 (F n = c) with h | h <;> omega
theorem ltl_pol {x : Int} (hx : 97 ≤ x ∧ x ≤ 122) : ltl x = pol (fun c => ind (x = c)) 97 13 ∧ lth x = pol (fun c => ind (x = c)) 110 13 := by
  rw [pol_ind, pol_ind, ltl, lth]
  by_cases h : x < 110
  · rw [if_pos h, if_pos h, if_pos (by omega), if_neg (by omega)]; exact ⟨rfl, rfl⟩
  · rw [if_neg h, if_neg h, if_neg (by omega), if_pos (by omega)]; exact ⟨rfl, rfl⟩
theorem ltl_b {x : Int} (hx : 97 ≤ x ∧ x ≤ 122) : (0 ≤ ltl x ∧ ltl x ≤ 281474976710656) ∧ 0 ≤ lth x ∧ lth x ≤ 281474976710656 := by
  have h : ∀ k : Fin 13, (2 ^ (4 * k.val) : Nat) ≤ 281474976710656 := by decide
  unfold ltl lth
  split
  · have h1 := h ⟨(x - 97).toNat, by omega⟩
    simp only at h1
    have h2 : (0 : Int) ≤ ((2 ^ (4 * (x - 97).toNat) : Nat) : Int) := Int.natCast_nonneg _
    have h3 : ((2 ^ (4 * (x - 97).toNat) : Nat) : Int) ≤ ((281474976710656 : Nat) : Int) := Int.ofNat_le.mpr h1
    exact ⟨⟨h2, h3⟩, by decide⟩
  · have h1 := h ⟨(x - 110).toNat, by omega⟩
    simp only at h1
    have h2 : (0 : Int) ≤ ((2 ^ (4 * (x - 110).toNat) : Nat) : Int) := Int.natCast_nonneg _
    have h3 : ((2 ^ (4 * (x - 110).toNat) : Nat) : Int) ≤ ((281474976710656 : Nat) : Int) := Int.ofNat_le.mpr h1
    exact ⟨by decide, h2, h3⟩
theorem s_isShuffled {F : Int → Int} {n f e : Int} (hA : Aim μ F n) (hw : wfW α) (hS : shW α tl t μ) (hf : 0 ≤ f ∧ f ≤ e ∧ e < α 87 tl) (h : ∀ r, bit r (isShf α tl F f e n) → P r μ) : CI G l (d + 2) mX9_isShuffled [xr G 33, xi f, xi e] μ P := by
  obtain ⟨a1, a2, a3⟩ := id hA
  have hs2 := hS.2.1
  have b0 := st_0 hw hS hf.1 (show f ≤ α 87 tl by omega)
  have b1 := st_0 hw hS (show 0 ≤ e + 1 by omega) (show e + 1 ≤ α 87 tl by omega)
  have b2 := st_le hw hS (show 0 ≤ e + 1 by omega) (show e + 1 ≤ α 87 tl by omega) (Int.le_refl _)
  apply E_X9_isShuffled
  rw [st_at hS (show 0 ≤ e + 1 ∧ e + 1 ≤ α 87 tl by omega), st_at hS (show 0 ≤ f ∧ f ≤ α 87 tl by omega), a1]
  refine ⟨by omega, by omega, by omega, by omega, fun z => ?_, fun z => h 0 (Or.inr ⟨rfl, fun q => z q.1⟩)⟩
  have main : ∀ (N : Nat) (v mv lo hi : Int), v + N = n → 0 ≤ v → (mv = 0 ∨ mv = 1) → (mv = 1 ↔ ∃ m, 0 ≤ m ∧ m < v ∧ txF α tl (stF α tl f + m) ≠ F m) →
      lo = pol (fun c => cnF (fun m => txF α tl (stF α tl f + m)) c v.toNat - cnF F c v.toNat) 97 13 → hi = pol (fun c => cnF (fun m => txF α tl (stF α tl f + m)) c v.toNat - cnF F c v.toNat) 110 13 →
      (-281474976710656 * v ≤ lo ∧ lo ≤ 281474976710656 * v) → (-281474976710656 * v ≤ hi ∧ hi ≤ 281474976710656 * v) → K_X9_isShuffled_38 G l (d + 2) P (stF α tl f) mv lo hi v μ := by
    intro N
    induction N with
    | zero =>
      intro v mv lo hi hv v0 h01 hmv hlo hhi blo bhi
      have ev : v = n := by omega
      subst ev
      have jc : ∀ x : Int, jcmp x 0 = 0 ↔ x = 0 := by intro x; unfold jcmp; grind
      have bnd : ∀ c : Int, -15 ≤ cnF (fun m => txF α tl (stF α tl f + m)) c v.toNat - cnF F c v.toNat ∧ cnF (fun m => txF α tl (stF α tl f + m)) c v.toNat - cnF F c v.toNat ≤ 15 := by
        intro c
        have q1 := cnF_nn (F := fun m => txF α tl (stF α tl f + m)) (c := c) v.toNat
        have q2 := cnF_nn (F := F) (c := c) v.toNat
        omega
      have pl0 := pol_0 (f := fun c => cnF (fun m => txF α tl (stF α tl f + m)) c v.toNat - cnF F c v.toNat) 13 97 (fun c _ _ => bnd c)
      have ph0 := pol_0 (f := fun c => cnF (fun m => txF α tl (stF α tl f + m)) c v.toNat - cnF F c v.toNat) 13 110 (fun c _ _ => bnd c)
      rw [← hlo] at pl0
      rw [← hhi] at ph0
      apply B_X9_isShuffled_38
      rw [a1]
      refine ⟨by omega, by omega, fun _ => ⟨by omega, fun y => h 0 (Or.inr ⟨rfl, fun q => ?_⟩), fun y => ⟨by omega, fun y1 => h 0 (Or.inr ⟨rfl, fun q => ?_⟩), fun y1 => ⟨by omega, fun y2 => h 0 (Or.inr ⟨rfl, fun q => ?_⟩), fun y2 => h 1 (Or.inl ⟨rfl, z, fun c c0 c1 => ?_, hmv.mp (by omega)⟩)⟩⟩⟩, fun y => by omega⟩
      · have := hmv.mpr q.2.2
        omega
      · refine y1 ((jc lo).mpr (pl0.mpr (fun c c0 c1 => ?_)))
        have := q.2.1 c c0 (by omega)
        omega
      · refine y2 ((jc hi).mpr (ph0.mpr (fun c c0 c1 => ?_)))
        have := q.2.1 c (by omega) (by omega)
        omega
      · rcases (show c < 110 ∨ 110 ≤ c by omega) with k | k
        · have := pl0.mp ((jc lo).mp y1) c c0 (by omega)
          omega
        · have := ph0.mp ((jc hi).mp y2) c k (by omega)
          omega
    | succ N ih =>
      intro v mv lo hi hv v0 h01 hmv hlo hhi blo bhi
      obtain ⟨x1, x2, x3⟩ := tx_eq hw hS (m := stF α tl f + v) (by omega) (by omega)
      obtain ⟨y1, y2, y3⟩ := a3 v v0 (by omega)
      have tb1 := ltl_b (x := txF α tl (stF α tl f + v)) ⟨x2, x3⟩
      have tb2 := ltl_b (x := F v) ⟨y2, y3⟩
      obtain ⟨u1, u2⟩ := ltl_pol (x := txF α tl (stF α tl f + v)) ⟨x2, x3⟩
      obtain ⟨u3, u4⟩ := ltl_pol (x := F v) ⟨y2, y3⟩
      have cs : ∀ c, cnF (fun m => txF α tl (stF α tl f + m)) c (v + 1).toNat - cnF F c (v + 1).toNat = (cnF (fun m => txF α tl (stF α tl f + m)) c v.toNat - cnF F c v.toNat) + (ind (txF α tl (stF α tl f + v) = c) + (-1) * ind (F v = c)) := by
        intro c
        rw [show (v + 1).toNat = v.toNat + 1 by omega, cnF, cnF, show ((v.toNat : Nat) : Int) = v by omega]
        omega
      have pneg : ∀ (n : Nat) (b : Int), pol (fun c => (-1) * ind (F v = c)) b n = - pol (fun c => ind (F v = c)) b n := by
        intro n
        induction n with
        | zero => intro b; rfl
        | succ n ih2 => intro b; rw [pol, pol, ih2]; omega
      have step : ∀ b, pol (fun c => cnF (fun m => txF α tl (stF α tl f + m)) c (v + 1).toNat - cnF F c (v + 1).toNat) b 13 = pol (fun c => cnF (fun m => txF α tl (stF α tl f + m)) c v.toNat - cnF F c v.toNat) b 13 + (pol (fun c => ind (txF α tl (stF α tl f + v) = c)) b 13 - pol (fun c => ind (F v = c)) b 13) := by
        intro b
        rw [pol_congr 13 b cs, pol_add, pol_add, pneg]
        omega
      have go : ∀ s, (s = 0 ∨ s = 1) → (s = 1 ↔ txF α tl (stF α tl f + v) ≠ F v) → K_X9_isShuffled_73 G l (d + 2) P (stF α tl f) lo hi v mv s μ := by
        intro s hs hsne
        apply B_X9_isShuffled_73
        rw [x1]
        refine ⟨by omega, s_lowTally ⟨x2, x3⟩ ?_⟩
        simp only [x1, y1]
        refine ⟨by omega, s_lowTally ⟨y2, y3⟩ ?_⟩
        simp only [x1, y1]
        refine s_highTally ⟨x2, x3⟩ ?_
        simp only [x1, y1]
        refine s_highTally ⟨y2, y3⟩ ?_
        have ej : jor mv s = if mv = 1 ∨ s = 1 then 1 else 0 := by
          rcases h01 with rfl | rfl <;> rcases hs with rfl | rfl <;> decide
        rw [ej]
        refine ih (v + 1) _ _ _ (by omega) (by omega) (by split <;> simp) ?_ (by rw [step, ← hlo, u1, u3]) (by rw [step, ← hhi, u2, u4]) (by omega) (by omega)
        constructor
        · intro k
          by_cases c1 : mv = 1
          · obtain ⟨m, m0, m1, m2⟩ := hmv.mp c1
            exact ⟨m, m0, by omega, m2⟩
          · by_cases c2 : s = 1
            · exact ⟨v, v0, by omega, hsne.mp c2⟩
            · rw [if_neg (by omega)] at k; omega
        · rintro ⟨m, m0, m1, m2⟩
          rcases (show m < v ∨ m = v by omega) with c | c
          · rw [if_pos (Or.inl (hmv.mpr ⟨m, m0, c, m2⟩))]
          · rw [c] at m2
            rw [if_pos (Or.inr (hsne.mpr m2))]
      apply B_X9_isShuffled_38
      rw [a1, x1, y1]
      exact ⟨by omega, by omega, fun y => by omega, fun y => ⟨by omega, by omega, by omega, by omega, fun k => go 0 (Or.inl rfl) ⟨fun q => by omega, fun q => absurd k q⟩, fun k => go 1 (Or.inr rfl) ⟨fun _ => k, fun _ => rfl⟩⟩⟩
  refine main n.toNat 0 0 0 0 (by omega) (by omega) (Or.inl rfl) ⟨fun q => by omega, fun ⟨m, m0, m1, _⟩ => by omega⟩ ?_ ?_ (by decide) (by decide)
  · exact ((pol_0 13 97 (fun c _ _ => by simp [cnF])).mpr (fun c _ _ => by simp [cnF])).symm
  · exact ((pol_0 13 110 (fun c _ _ => by simp [cnF])).mpr (fun c _ _ => by simp [cnF])).symm
end SpecSheet3
