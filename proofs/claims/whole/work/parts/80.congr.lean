/-! readings depend on what they look at alone -/
section SpecCongr
def agO (n L : Int) (O O' : xO) : Prop := (∀ p ah be s a x y b, 0 ≤ p → p < n → 0 ≤ ah → 0 ≤ be → (s = 0 ∨ s = 1) → 0 ≤ a → a ≤ x → x ≤ y → y ≤ b → b ≤ L → O.1 p ah be (s, a, x, y, b) = O'.1 p ah be (s, a, x, y, b)) ∧ (∀ p ah be s a x y b, 0 ≤ p → p < n → 0 ≤ ah → 0 ≤ be → (s = 0 ∨ s = 1) → 0 ≤ a → a ≤ x → x ≤ y → y ≤ b → b ≤ L → O.2.1 p ah be (s, a, x, y, b) = O'.2.1 p ah be (s, a, x, y, b)) ∧
  (∀ kd s a b f e, (s = 0 ∨ s = 1) → 0 ≤ a → a < b → b ≤ L → 0 ≤ f → f ≤ e → e < n → O.2.2.1 kd s a b f e = O'.2.2.1 kd s a b f e) ∧ (∀ p pl, 0 ≤ p → p < n → O.2.2.2.1 p pl = O'.2.2.2.1 p pl) ∧ O.2.2.2.2 = L ∧ O'.2.2.2.2 = L
variable {n L : Int} {O O' : xO} {R R' A A' : xV}
def agV (n L : Int) (R R' : xV) : Prop := ∀ s i j a b, (s = 0 ∨ s = 1) → 0 ≤ i → j < n → 0 ≤ a → b ≤ L → R s i j a b = R' s i j a b
theorem sgd_ag (h : agO n L O O') {s a b S f t : Int} (hs : s = 0 ∨ s = 1) (ha : 0 ≤ a) (hab : a < b) (hb : b ≤ L) (hS : 0 ≤ S ∧ S < n) (hf : 0 ≤ f ∧ f ≤ t ∧ t < n) : oSgd O s a b S f t = oSgd O' s a b S f t := by
  obtain ⟨h1, h2, h3, h4, -, -⟩ := h
  unfold oSgd
  rw [h3 0 s a b f t hs ha hab hb hf.1 hf.2.1 hf.2.2, h3 1 s a b f t hs ha hab hb hf.1 hf.2.1 hf.2.2, h3 2 s a b f t hs ha hab hb hf.1 hf.2.1 hf.2.2, h3 3 s a b f t hs ha hab hb hf.1 hf.2.1 hf.2.2, h4 S 0 hS.1 hS.2, h4 S 1 hS.1 hS.2, h4 S 2 hS.1 hS.2, h4 S 3 hS.1 hS.2, h4 S 5 hS.1 hS.2, h4 S 6 hS.1 hS.2]
  rw [h1 f 1 0 s a b b b hf.1 (by omega) (by decide) (by decide) hs ha (by omega) (by omega) (by omega) hb, h2 f 1 0 s a b b b hf.1 (by omega) (by decide) (by decide) hs ha (by omega) (by omega) (by omega) hb, h1 f 0 1 s a b b b hf.1 (by omega) (by decide) (by decide) hs ha (by omega) (by omega) (by omega) hb, h2 f 0 1 s a b b b hf.1 (by omega) (by decide) (by decide) hs ha (by omega) (by omega) (by omega) hb]
theorem trn_ag (h : agO n L O O') (hR : agV n L R R') {s a b S f t : Int} (hs : s = 0 ∨ s = 1) (ha : 0 ≤ a) (hb : b ≤ L) (hS : 0 ≤ S ∧ S < n) (hf : 0 ≤ f ∧ t < n) : oTrn O R s a b S f t = oTrn O' R' s a b S f t := by
  unfold oTrn
  rw [h.2.2.2.1 S 4 hS.1 hS.2, h.2.2.2.2.1, h.2.2.2.2.2, hR (1 - s) f t (L - b) (L - a) (by omega) hf.1 hf.2 (by omega) (by omega)]
theorem ard_ag (h : agO n L O O') (hR : agV n L R R') {s a b y S w f t p q : Int} (hs : s = 0 ∨ s = 1) (ha : 0 ≤ a) (hb : b ≤ L) (hw : 0 ≤ w ∧ w < n) (hf : 0 ≤ f ∧ t < n) (hp : a ≤ p ∧ p ≤ q ∧ q ≤ b) : oArd O R s a b y S w f t p q = oArd O' R' s a b y S w f t p q := by
  unfold oArd
  rw [hR s f t p q hs hf.1 hf.2 (by omega) (by omega), h.1 w 0 0 s a p q b hw.1 hw.2 (by decide) (by decide) hs ha hp.1 hp.2.1 hp.2.2 hb, h.2.1 w 0 0 s a p q b hw.1 hw.2 (by decide) (by decide) hs ha hp.1 hp.2.1 hp.2.2 hb]
theorem ardQ_ag (h : agO n L O O') (hR : agV n L R R') {s a b y S w f t p : Int} (hs : s = 0 ∨ s = 1) (ha : 0 ≤ a) (hb : b ≤ L) (hw : 0 ≤ w ∧ w < n) (hf : 0 ≤ f ∧ t < n) (hp : a ≤ p) : ∀ k : Nat, p ≤ b - k → oArdQ O R s a b y S w f t p k = oArdQ O' R' s a b y S w f t p k
  | 0, _ => rfl
  | k + 1, hk => by rw [oArdQ, oArdQ, ardQ_ag h hR hs ha hb hw hf hp k (by omega), ard_ag h hR hs ha hb hw hf (by omega)]
theorem ardP_ag (h : agO n L O O') (hR : agV n L R R') {s a b y S w f t : Int} (hs : s = 0 ∨ s = 1) (ha : 0 ≤ a) (hb : b ≤ L) (hw : 0 ≤ w ∧ w < n) (hf : 0 ≤ f ∧ t < n) : ∀ k : Nat, a ≤ b - 1 - k → oArdP O R s a b y S w f t k = oArdP O' R' s a b y S w f t k
  | 0, _ => rfl
  | k + 1, hk => by rw [oArdP, oArdP, ardP_ag h hR hs ha hb hw hf k (by omega), ardQ_ag h hR hs ha hb hw hf (by omega) (k + 1) (by omega)]
theorem piece_ag (h : agO n L O O') (hR : agV n L R R') {s i j a b : Int} (hs : s = 0 ∨ s = 1) (hij : 0 ≤ i ∧ i ≤ j ∧ j < n) (ha : 0 ≤ a) (hab : a < b) (hb : b ≤ L) : pieceEq O R s i j a b = pieceEq O' R' s i j a b := by
  unfold pieceEq
  by_cases e : i = j
  · rw [if_pos e, if_pos e, h.1 i 0 0 s a b b b hij.1 (by omega) (by decide) (by decide) hs ha (by omega) (by omega) (by omega) hb, h.2.1 i 0 0 s a b b b hij.1 (by omega) (by decide) (by decide) hs ha (by omega) (by omega) (by omega) hb]
  · rw [if_neg e, if_neg e]
    rw [sgd_ag h hs ha hab hb (S := i) (f := i + 1) (t := j) (by omega) (by omega), sgd_ag h hs ha hab hb (S := j) (f := i) (t := j - 1) (by omega) (by omega), trn_ag h hR hs ha hb (S := i) (f := i + 1) (t := j) (by omega) (by omega), trn_ag h hR hs ha hb (S := j) (f := i) (t := j - 1) (by omega) (by omega)]
    have e3 : oIn O R s i j a b = oIn O' R' s i j a b := by
      unfold oIn
      rw [h.2.2.2.1 (j - 1) 7 (by omega) (by omega)]
      by_cases c : 2 ≤ j - i ∧ O'.2.2.2.1 (j - 1) 7 ≠ 0
      · rw [if_pos c, if_pos c]
        by_cases c2 : a + 1 ≤ b - 1
        · exact ardP_ag h hR hs ha hb (by omega) (by omega) _ (by omega)
        · rw [show (b - 1 - (a + 1)).toNat = 0 by omega]; rfl
      · rw [if_neg c, if_neg c]
    have e4 : oAbout O R s i j a b = oAbout O' R' s i j a b := by
      unfold oAbout
      rw [h.2.2.2.1 (i + 1) 8 (by omega) (by omega)]
      by_cases c : 2 ≤ j - i ∧ O'.2.2.2.1 (i + 1) 8 ≠ 0
      · rw [if_pos c, if_pos c]
        by_cases c2 : a + 1 ≤ b - 1
        · exact ardP_ag h hR hs ha hb (by omega) (by omega) _ (by omega)
        · rw [show (b - 1 - (a + 1)).toNat = 0 by omega]; rfl
      · rw [if_neg c, if_neg c]
    rw [e3, e4]
theorem jnC_ag (h : agO n L O O') (hA : agV n L A A') (hR : agV n L R R') {s i j a b k : Int} (hs : s = 0 ∨ s = 1) (hij : 0 ≤ i ∧ i ≤ k ∧ k < j ∧ j < n) (ha : 0 ≤ a) (hb : b ≤ L) : ∀ m : Nat, a ≤ b - m → oJnC O A R s i j a b k m = oJnC O' A' R' s i j a b k m
  | 0, _ => rfl
  | m + 1, hm => by
    rw [oJnC, oJnC, jnC_ag h hA hR hs hij ha hb m (by omega), oJn, oJn, hA s i k a _ hs hij.1 (by omega) ha (by omega), hR s (k + 1) j _ b hs (by omega) (by omega) (by omega) hb, hR s (k + 2) j _ b hs (by omega) (by omega) (by omega) hb, h.2.2.2.1 (k + 1) 9 (by omega) (by omega)]
theorem jnK_ag (h : agO n L O O') (hA : agV n L A A') (hR : agV n L R R') {s i j a b : Int} (hs : s = 0 ∨ s = 1) (hij : 0 ≤ i ∧ i ≤ j ∧ j < n) (ha : 0 ≤ a) (hab : a < b) (hb : b ≤ L) : ∀ m : Nat, (m : Int) ≤ j - i → oJnK O A R s i j a b m = oJnK O' A' R' s i j a b m
  | 0, _ => rfl
  | m + 1, hm => by rw [oJnK, oJnK, jnK_ag h hA hR hs hij ha hab hb m (by omega), jnC_ag h hA hR hs (by omega) ha hb _ (by omega)]
theorem PR_ag (h : agO n L O O') : ∀ f : Nat, agV n L (PR O f).1 (PR O' f).1 ∧ agV n L (PR O f).2 (PR O' f).2
  | 0 => ⟨fun _ _ _ _ _ _ _ _ _ _ => rfl, fun _ _ _ _ _ _ _ _ _ _ => rfl⟩
  | f + 1 => by
    obtain ⟨-, hR⟩ := PR_ag h f
    have hA : agV n L (fun s i j a b => if i ≤ j ∧ a < b then pieceEq O (PR O f).2 s i j a b else T0) (fun s i j a b => if i ≤ j ∧ a < b then pieceEq O' (PR O' f).2 s i j a b else T0) := by
      intro s i j a b hs hi hj ha hb
      show (if i ≤ j ∧ a < b then pieceEq O (PR O f).2 s i j a b else T0) = (if i ≤ j ∧ a < b then pieceEq O' (PR O' f).2 s i j a b else T0)
      by_cases e : i ≤ j ∧ a < b
      · rw [if_pos e, if_pos e]
        exact piece_ag h hR hs (by omega) ha e.2 hb
      · rw [if_neg e, if_neg e]
    refine ⟨hA, fun s i j a b hs hi hj ha hb => ?_⟩
    show (if i ≤ j ∧ a < b then rowEq O _ (PR O f).2 s i j a b else T0) = (if i ≤ j ∧ a < b then rowEq O' _ (PR O' f).2 s i j a b else T0)
    by_cases e : i ≤ j ∧ a < b
    · rw [if_pos e, if_pos e]
      unfold rowEq
      rw [hA s i j a b hs hi hj ha hb, jnK_ag h hA hR hs (by omega) ha e.2 hb _ (by omega)]
    · rw [if_neg e, if_neg e]
theorem whole_ag (h : agO n L O O') (hn : 2 ≤ n) {fr ba : Int} : whole O n fr ba = whole O' n fr ba := by
  have hR : agV n L (RV O) (RV O') := (PR_ag h 9).2
  have hL : 0 ≤ L ∨ L < 0 := by omega
  unfold whole
  rw [h.2.2.2.2.1, h.2.2.2.2.2, h.2.2.2.1 1 9 (by omega) (by omega), h.2.2.2.1 (n - 2) 9 (by omega) (by omega)]
  rw [hR 0 1 (n - 1) 0 L (Or.inl rfl) (by omega) (by omega) (by omega) (by omega), hR 0 2 (n - 1) 0 L (Or.inl rfl) (by omega) (by omega) (by omega) (by omega), hR 0 0 (n - 2) 0 L (Or.inl rfl) (by omega) (by omega) (by omega) (by omega), hR 0 0 (n - 3) 0 L (Or.inl rfl) (by omega) (by omega) (by omega) (by omega)]
end SpecCongr
section SpecSame
variable {α β : xMem} {tl w t t' km ks : Int}
def kP (α : xMem) (t km : Int) : Prop := (0 ≤ km ∧ km ≤ α 74 21) ∧ ∀ k, 0 ≤ k → k < α 74 21 → (k < km ↔ α 81 k ≤ t)
def kS (α : xMem) (t ks : Int) : Prop := (0 ≤ ks ∧ ks ≤ α 74 22) ∧ ∀ k, 0 ≤ k → k < α 74 22 → (k < ks ↔ α 84 k ≤ t)
def sameD (α β : xMem) (tl km ks : Int) : Prop := β 87 tl = α 87 tl ∧ (∀ p, 0 ≤ p → p < α 87 tl → cwd β tl p = cwd α tl p) ∧ (∀ v, 0 ≤ v → v < α 74 20 → β 77 v = α 77 v ∧ ∀ i, 0 ≤ i → i < α 77 v → β 76 (10 * v + i) = α 76 (10 * v + i)) ∧
  (∀ k, 0 ≤ k → k < km → β 79 k = α 79 k ∧ β 80 k = α 80 k) ∧ ∀ k, 0 ≤ k → k < ks → β 82 k = α 82 k ∧ β 83 k = α 83 k
theorem isSg_kS (h : kS α t ks) (v pl : Int) : isSg α t v pl ↔ ∃ k, 0 ≤ k ∧ k < ks ∧ α 82 k = v ∧ α 83 k = pl :=
  ⟨fun ⟨k, k0, k1, k2, k3, k4⟩ => ⟨k, k0, (h.2 k k0 k1).mpr k2, k3, k4⟩, fun ⟨k, k0, k1, k3, k4⟩ => ⟨k, k0, by have := h.1; omega, (h.2 k k0 (by have := h.1; omega)).mp k1, k3, k4⟩⟩
theorem isMn_kP (h : kP α t km) (a b : Int) : isMn α t a b ↔ ∃ k, 0 ≤ k ∧ k < km ∧ α 79 k = a ∧ α 80 k = b :=
  ⟨fun ⟨k, k0, k1, k2, k3, k4⟩ => ⟨k, k0, (h.2 k k0 k1).mpr k2, k3, k4⟩, fun ⟨k, k0, k1, k3, k4⟩ => ⟨k, k0, by have := h.1; omega, (h.2 k k0 (by have := h.1; omega)).mp k1, k3, k4⟩⟩
theorem isSg_same (hs : sameD α β tl km ks) (h1 : kS α t ks) (h2 : kS β t' ks) (v pl : Int) : isSg α t v pl ↔ isSg β t' v pl := by
  rw [isSg_kS h1, isSg_kS h2]
  exact ⟨fun ⟨k, k0, k1, k2, k3⟩ => ⟨k, k0, k1, by rw [(hs.2.2.2.2 k k0 k1).1]; exact k2, by rw [(hs.2.2.2.2 k k0 k1).2]; exact k3⟩, fun ⟨k, k0, k1, k2, k3⟩ => ⟨k, k0, k1, by rw [← (hs.2.2.2.2 k k0 k1).1]; exact k2, by rw [← (hs.2.2.2.2 k k0 k1).2]; exact k3⟩⟩
theorem isMn_same (hs : sameD α β tl km ks) (h1 : kP α t km) (h2 : kP β t' km) (a b : Int) : isMn α t a b ↔ isMn β t' a b := by
  rw [isMn_kP h1, isMn_kP h2]
  exact ⟨fun ⟨k, k0, k1, k2, k3⟩ => ⟨k, k0, k1, by rw [(hs.2.2.2.1 k k0 k1).1]; exact k2, by rw [(hs.2.2.2.1 k k0 k1).2]; exact k3⟩, fun ⟨k, k0, k1, k2, k3⟩ => ⟨k, k0, k1, by rw [← (hs.2.2.2.1 k k0 k1).1]; exact k2, by rw [← (hs.2.2.2.1 k k0 k1).2]; exact k3⟩⟩
theorem cntN_kP (h : kP α t km) {a : Int} {p : Int → Prop} : cntN α t a p (α 74 21).toNat = cntN α t a p km.toNat := by
  have e : (α 74 21).toNat = km.toNat + (α 74 21 - km).toNat := by have := h.1; omega
  rw [e]
  refine cnt_skip _ (fun j j0 j1 hj => ?_)
  have := (h.2 j (by omega) (by have := h.1; omega)).mpr hj.2.1
  have := h.1
  omega
theorem cntN_same (hs : sameD α β tl km ks) (h1 : kP α t km) (h2 : kP β t' km) {a : Int} {p p' : Int → Prop} (hp : ∀ k, 0 ≤ k → k < km → (p (α 80 k) ↔ p' (α 80 k))) : cntN α t a p (α 74 21).toNat = cntN β t' a p' (β 74 21).toNat := by
  rw [cntN_kP h1, cntN_kP h2]
  have main : ∀ n : Nat, (n : Int) ≤ km → cntN α t a p n = cntN β t' a p' n := by
    intro n
    induction n with
    | zero => intro _; rfl
    | succ n ih =>
      intro hn
      have b1 := h1.1
      have b2 := h2.1
      rw [cntN, cntN, ih (by omega)]
      congr 1
      obtain ⟨e1, e2⟩ := hs.2.2.2.1 (n : Int) (by omega) (by omega)
      have d1 := (h1.2 (n : Int) (by omega) (by omega)).mp (by omega)
      have d2 := (h2.2 (n : Int) (by omega) (by omega)).mp (by omega)
      rw [e1, e2]
      refine ind_congr ⟨fun ⟨x, _, z⟩ => ⟨x, d2, (hp n (by omega) (by omega)).mp z⟩, fun ⟨x, _, z⟩ => ⟨x, d1, (hp n (by omega) (by omega)).mpr z⟩⟩
  exact main km.toNat (by have := h1.1; omega)
theorem fit_same (hs : sameD α β tl km ks) {v ah be len : Int} {F F' : Int → Int} (hv : 0 ≤ v ∧ v < α 74 20) (h0 : 0 ≤ ah) (h1 : 0 ≤ be) (hF : ∀ m, 0 ≤ m → m < len → F m = F' m) : fit α v ah be F len ↔ fit β v ah be F' len := by
  obtain ⟨e1, e2⟩ := hs.2.2.1 v hv.1 hv.2
  unfold fit
  rw [e1]
  constructor
  · rintro ⟨x, y⟩
    exact ⟨x, fun m m0 m1 => by rw [e2 _ (by omega) (by omega), y m m0 m1, hF m m0 m1]⟩
  · rintro ⟨x, y⟩
    exact ⟨x, fun m m0 m1 => by rw [← e2 _ (by omega) (by omega), y m m0 m1, hF m m0 m1]⟩
theorem ans_same (hs : sameD α β tl km ks) (hw : 0 ≤ w ∧ w < α 74 20) {s k : Int} (h0 : 0 ≤ k) (h1 : k < α 77 w) : ansF α w s k = ansF β w s k := by
  obtain ⟨e1, e2⟩ := hs.2.2.1 w hw.1 hw.2
  unfold ansF
  rw [e1]
  split
  · exact (e2 k h0 h1).symm
  · exact (e2 _ (by omega) (by omega)).symm
theorem tg_same (hs : sameD α β tl km ks) (hw : 0 ≤ w ∧ w < α 74 20) {s a x y b m : Int} (ha : 0 ≤ a) (h1 : a ≤ x) (h2 : x ≤ y) (h3 : y ≤ b) (hb : b ≤ α 77 w) (m0 : 0 ≤ m) (m1 : m < tgL (s, a, x, y, b)) : tgF α w (s, a, x, y, b) m = tgF β w (s, a, x, y, b) m := by
  have m1' : m < (b - a) - (y - x) := m1
  unfold tgF
  simp only
  split
  · exact ans_same hs hw (by omega) (by omega)
  · exact ans_same hs hw (by omega) (by omega)
theorem st_same (hc : clW α tl) (hs : sameD α β tl km ks) : ∀ p : Nat, (p : Int) ≤ α 87 tl → stN β tl p = stN α tl p
  | 0, _ => rfl
  | p + 1, h => by
    obtain ⟨c1, c2⟩ := hc.2 (p : Int) (by omega) (by omega)
    rw [stN, stN, st_same hc hs p (by omega), hs.2.1 p (by omega) (by omega), (hs.2.2.1 _ c1 c2).1]
theorem tx_same (hw : wfW α) (hc : clW α tl) (hs : sameD α β tl km ks) : ∀ (p : Nat) (m : Int), (p : Int) ≤ α 87 tl → 0 ≤ m → m < stN α tl p → txN β tl p m = txN α tl p m
  | 0, m, _, _, _ => rfl
  | p + 1, m, h, m0, m1 => by
    obtain ⟨c1, c2⟩ := hc.2 (p : Int) (by omega) (by omega)
    rw [stN] at m1
    rw [txN, txN, st_same hc hs p (by omega), hs.2.1 p (by omega) (by omega)]
    by_cases c : m < stN α tl p
    · rw [if_pos c, if_pos c]
      exact tx_same hw hc hs p m (by omega) m0 c
    · rw [if_neg c, if_neg c]
      exact (hs.2.2.1 _ c1 c2).2 _ (by omega) (by omega)
theorem cnF_same {F F' : Int → Int} {c : Int} : ∀ n : Nat, (∀ m : Int, 0 ≤ m → m < n → F m = F' m) → cnF F c n = cnF F' c n
  | 0, _ => rfl
  | n + 1, h => by rw [cnF, cnF, cnF_same n (fun m a b => h m a (by omega)), h n (by omega) (by omega)]
theorem Orc_same (hwf : wfW α) (hc : clW α tl) (hwr : 0 ≤ w ∧ w < α 74 20) (hm : ∀ k, 0 ≤ k → k < km → 0 ≤ α 80 k ∧ α 80 k < α 74 20) (hs : sameD α β tl km ks) (p1 : kP α t km) (p2 : kP β t' km) (s1 : kS α t ks) (s2 : kS β t' ks) : agO (α 87 tl) (α 77 w) (Orc α tl w t) (Orc β tl w t') := by
  have ew := (hs.2.2.1 w hwr.1 hwr.2).1
  have eS : ∀ p : Int, 0 ≤ p → p ≤ α 87 tl → stF β tl p = stF α tl p := fun p p0 p1 => by
    unfold stF
    exact st_same hc hs p.toNat (by omega)
  have eT : ∀ m : Int, 0 ≤ m → m < stF α tl (α 87 tl) → txF β tl m = txF α tl m := fun m m0 m1 => by
    unfold txF
    rw [hs.1]
    have := hc.1
    exact tx_same hwf hc hs _ m (by omega) m0 m1
  refine ⟨fun p ah be s a x y b q0 q1 h0 h1 hS ha hx hy hb hL => ?_, fun p ah be s a x y b q0 q1 h0 h1 hS ha hx hy hb hL => ?_, fun kd s a b f e hS ha hab hL f0 fe en => ?_, fun p pl q0 q1 => ?_, rfl, ew⟩
  · obtain ⟨c1, c2⟩ := hc.2 p q0 q1
    show ind (fit α (cwd α tl p) ah be (tgF α w (s, a, x, y, b)) (tgL (s, a, x, y, b))) = ind (fit β (cwd β tl p) ah be (tgF β w (s, a, x, y, b)) (tgL (s, a, x, y, b)))
    rw [hs.2.1 p q0 q1]
    exact ind_congr (fit_same hs ⟨c1, c2⟩ h0 h1 (fun m m0 m1 => tg_same hs hwr ha hx hy hb hL m0 m1))
  · obtain ⟨c1, c2⟩ := hc.2 p q0 q1
    show cntN α t (cwd α tl p) (fun v => fit α v ah be (tgF α w (s, a, x, y, b)) (tgL (s, a, x, y, b))) (α 74 21).toNat = cntN β t' (cwd β tl p) (fun v => fit β v ah be (tgF β w (s, a, x, y, b)) (tgL (s, a, x, y, b))) (β 74 21).toNat
    rw [hs.2.1 p q0 q1]
    exact cntN_same hs p1 p2 (fun k k0 k1 => fit_same hs (hm k k0 k1) h0 h1 (fun m m0 m1 => tg_same hs hwr ha hx hy hb hL m0 m1))
  · have eF : ∀ m, 0 ≤ m → m < b - a → tgF β w (tgA s a b) m = tgF α w (tgA s a b) m := fun m m0 m1 => (tg_same hs hwr ha (by omega) (by omega) (by omega) hL m0 (by show m < (b - a) - (b - b); omega)).symm
    have l1 := ct_le hwf hc (p := f) (q := e + 1) f0 (by omega) (by omega)
    have l2 := ct_le hwf hc (p := e + 1) (q := α 87 tl) (by omega) (by omega) (Int.le_refl _)
    have l3 := ct_le hwf hc (p := 0) (q := f) (by omega) (by omega) (by omega)
    have z0 : stF α tl 0 = 0 := rfl
    show (if kd = 0 then ind (isShf α tl (tgF α w (tgA s a b)) f e (b - a)) else if kd = 1 then ind (isHds α tl (tgF α w (tgA s a b)) f e (b - a)) else if kd = 2 then ind (isTls α tl (tgF α w (tgA s a b)) f e (b - a)) else ind (isHid α tl (tgF α w (tgA s a b)) f e (b - a))) = (if kd = 0 then ind (isShf β tl (tgF β w (tgA s a b)) f e (b - a)) else if kd = 1 then ind (isHds β tl (tgF β w (tgA s a b)) f e (b - a)) else if kd = 2 then ind (isTls β tl (tgF β w (tgA s a b)) f e (b - a)) else ind (isHid β tl (tgF β w (tgA s a b)) f e (b - a)))
    have i0 : isShf α tl (tgF α w (tgA s a b)) f e (b - a) ↔ isShf β tl (tgF β w (tgA s a b)) f e (b - a) := by
      unfold isShf
      rw [eS (e + 1) (by omega) (by omega), eS f (by omega) (by omega)]
      refine and_congr_right (fun hn => ?_)
      have eX : ∀ m, 0 ≤ m → m < b - a → txF β tl (stF α tl f + m) = txF α tl (stF α tl f + m) := fun m m0 m1 => eT _ (by omega) (by omega)
      refine and_congr (forall_congr' (fun c => ?_)) ⟨fun ⟨m, m0, m1, m2⟩ => ⟨m, m0, m1, by rw [eX m m0 m1, eF m m0 m1]; exact m2⟩, fun ⟨m, m0, m1, m2⟩ => ⟨m, m0, m1, by rw [← eX m m0 m1, ← eF m m0 m1]; exact m2⟩⟩
      rw [cnF_same (F := fun m => txF β tl (stF α tl f + m)) (F' := fun m => txF α tl (stF α tl f + m)) (b - a).toNat (fun m m0 m1 => eX m m0 (by omega)), cnF_same (F := tgF β w (tgA s a b)) (F' := tgF α w (tgA s a b)) (b - a).toNat (fun m m0 m1 => eF m m0 (by omega))]
    have i1 : isHds α tl (tgF α w (tgA s a b)) f e (b - a) ↔ isHds β tl (tgF β w (tgA s a b)) f e (b - a) := by
      unfold isHds
      refine and_congr_right (fun hn => forall_congr' (fun m => forall_congr' (fun m0 => forall_congr' (fun m1 => ?_))))
      obtain ⟨c1, c2⟩ := hc.2 (f + m) (by omega) (by omega)
      have hl := (hwf.2 _ c1 c2).1
      have := (hs.2.2.1 _ c1 c2).2 0 (by omega) (by omega)
      rw [Int.add_zero] at this
      rw [hs.2.1 (f + m) (by omega) (by omega), eF m m0 m1, this]
    have i2 : isTls α tl (tgF α w (tgA s a b)) f e (b - a) ↔ isTls β tl (tgF β w (tgA s a b)) f e (b - a) := by
      unfold isTls
      refine and_congr_right (fun hn => forall_congr' (fun m => forall_congr' (fun m0 => forall_congr' (fun m1 => ?_))))
      obtain ⟨c1, c2⟩ := hc.2 (f + m) (by omega) (by omega)
      have hl := (hwf.2 _ c1 c2).1
      have e9 := hs.2.2.1 _ c1 c2
      rw [hs.2.1 (f + m) (by omega) (by omega), eF m m0 m1, e9.1, e9.2 _ (by omega) (by omega)]
    have i3 : isHid α tl (tgF α w (tgA s a b)) f e (b - a) ↔ isHid β tl (tgF β w (tgA s a b)) f e (b - a) := by
      unfold isHid
      refine and_congr_right (fun hn => ?_)
      obtain ⟨c1, c2⟩ := hc.2 f (by omega) (by omega)
      obtain ⟨c3, c4⟩ := hc.2 e (by omega) (by omega)
      rw [eS e (by omega) (by omega), eS (f + 1) (by omega) (by omega), hs.2.1 f (by omega) (by omega), hs.2.1 e (by omega) (by omega), (hs.2.2.1 _ c1 c2).1, (hs.2.2.1 _ c3 c4).1]
      have g1 := st_succ (α := α) (tl := tl) (p := f) f0
      have g2 := st_succ (α := α) (tl := tl) (p := e) (by omega)
      have l4 := ct_le hwf hc (p := f + 1) (q := e) (by omega) (by omega) (by omega)
      refine exists_congr (fun x => and_congr_right (fun x1 => and_congr_right (fun x2 => and_congr_right (fun x3 => and_congr_right (fun x4 => forall_congr' (fun m => forall_congr' (fun m0 => forall_congr' (fun m1 => ?_))))))))
      rw [eF m m0 m1, eT _ (by omega) (by omega)]
    rw [ind_congr i0, ind_congr i1, ind_congr i2, ind_congr i3]
  · show ind (isSg α t (cwd α tl p) pl) = ind (isSg β t' (cwd β tl p) pl)
    rw [hs.2.1 p q0 q1]
    exact ind_congr (isSg_same hs s1 s2 _ _)
/-- the same data, the same readings -/
theorem wh_same (hwf : wfW α) (hc : clW α tl) (hwr : 0 ≤ w ∧ w < α 74 20) (hm : ∀ k, 0 ≤ k → k < km → 0 ≤ α 80 k ∧ α 80 k < α 74 20) (hs : sameD α β tl km ks) (p1 : kP α t km) (p2 : kP β t' km) (s1 : kS α t ks) (s2 : kS β t' ks) : wh β tl w t' = wh α tl w t := by
  have hag := Orc_same hwf hc hwr hm hs p1 p2 s1 s2
  have hn := hc.1
  unfold wh
  rw [hs.1, hs.2.1 0 (by omega) (by omega), hs.2.1 _ (by omega) (by omega), ← ind_congr (isMn_same hs p1 p2 (cwd α tl 0) w), ← ind_congr (isMn_same hs p1 p2 (cwd α tl (α 87 tl - 1)) w)]
  exact (whole_ag hag hn.1).symm
end SpecSame
