/-! names: symbols as bytes, comparing, none of two starts the other -/
section SpecMName
def chr (s : Int) : Int := ([32, 40, 41, 49, 50, 51, 52, 53, 54, 55, 56, 61, 65, 66, 67, 68, 69, 70, 71, 72, 97, 98, 99, 101, 102, 104, 105, 107, 108, 109, 115, 116] : List Int).getD s.toNat 0
theorem chr_f : ∀ a b : Fin 32, a < b → chr (a.val : Int) < chr (b.val : Int) := by decide
theorem chr_r : ∀ a : Fin 32, 32 ≤ chr (a.val : Int) ∧ chr (a.val : Int) ≤ 116 := by decide
theorem chr_lt {a b : Int} (ha : 0 ≤ a ∧ a ≤ 31) (hb : 0 ≤ b ∧ b ≤ 31) : chr a < chr b ↔ a < b := by
  have h1 := chr_f ⟨a.toNat, by omega⟩ ⟨b.toNat, by omega⟩
  have h2 := chr_f ⟨b.toNat, by omega⟩ ⟨a.toNat, by omega⟩
  simp only [Fin.mk_lt_mk] at h1 h2
  rw [show ((a.toNat : Nat) : Int) = a by omega, show ((b.toNat : Nat) : Int) = b by omega] at h1 h2
  constructor
  · intro h
    rcases (show a < b ∨ a = b ∨ b < a by omega) with c | c | c
    · exact c
    · rw [c] at h; omega
    · have := h2 (by omega); omega
  · intro h
    exact h1 (by omega)
theorem chr_b {a : Int} (ha : 0 ≤ a ∧ a ≤ 31) : 32 ≤ chr a ∧ chr a ≤ 116 := by
  have h1 := chr_r ⟨a.toNat, by omega⟩
  simp only at h1
  rw [show ((a.toNat : Nat) : Int) = a by omega] at h1
  exact h1
theorem chr_wd : ∀ i : Fin 8, chr (12 + (i.val : Int)) = 65 + (i.val : Int) := by decide
theorem chr_dg : ∀ i : Fin 9, 0 < i.val → chr (2 + (i.val : Int)) = 48 + (i.val : Int) := by decide
theorem cd_lt1 : ∀ (n : Nat) (L N : List Int) (k : Nat), okN L → okN N → k < n → (∀ i, i < k → L.getD i 0 = N.getD i 0) → L.getD k 0 < N.getD k 0 → cd n L < cd n N
  | 0, _, _, _, _, _, h, _, _ => by omega
  | n + 1, L, [], k, hL, _, _, _, h => by
    have h0 : 0 ≤ L.getD k 0 := by
      rw [List.getD_eq_getElem?_getD]
      cases e : L[k]? with
      | none => exact Int.le_refl _
      | some x => have := hL x (List.mem_of_getElem? e); simp; omega
    simp at h
    rw [List.getD_eq_getElem?_getD] at h0
    omega
  | n + 1, [], s' :: r', 0, _, hN, _, _, h => by
    have h1 := hN s' (List.mem_cons_self ..)
    have h2 := cd_bound n r' (fun x hx => hN x (List.mem_cons_of_mem _ hx))
    rw [cd, cd]
    have h3 : 1 * 32 ^ n ≤ s' * (32 : Int) ^ n := Int.mul_le_mul_of_nonneg_right h1.1 (by have := Int.pow_pos (n := 32) (m := n) (by decide); omega)
    have h4 := Int.pow_pos (n := 32) (m := n) (by decide)
    omega
  | n + 1, [], s' :: r', k + 1, _, hN, _, he, h => by
    have h1 := hN s' (List.mem_cons_self ..)
    have h2 := he 0 (by omega)
    simp at h2
    omega
  | n + 1, s :: r, s' :: r', 0, hL, hN, _, _, h => by
    have h1 := cd_bound n r (fun x hx => hL x (List.mem_cons_of_mem _ hx))
    have h2 := cd_bound n r' (fun x hx => hN x (List.mem_cons_of_mem _ hx))
    simp at h
    rw [cd, cd]
    have h3 : (s + 1) * 32 ^ n ≤ s' * (32 : Int) ^ n := Int.mul_le_mul_of_nonneg_right (by omega) (by have := Int.pow_pos (n := 32) (m := n) (by decide); omega)
    rw [Int.add_mul] at h3
    omega
  | n + 1, s :: r, s' :: r', k + 1, hL, hN, hk, he, h => by
    have e0 := he 0 (by omega)
    simp at e0
    rw [cd, cd, e0]
    have := cd_lt1 n r r' k (fun x hx => hL x (List.mem_cons_of_mem _ hx)) (fun x hx => hN x (List.mem_cons_of_mem _ hx)) (by omega) (fun i hi => by have := he (i + 1) (by omega); simpa using this) (by simpa using h)
    omega
/-- how many words a name has; how deep it is -/
def wc : List Int → Int
  | [] => 0
  | s :: r => (if 12 ≤ s ∧ s ≤ 19 then 1 else 0) + wc r
def dp : List Int → Int
  | [] => 0
  | s :: r => (if s = 1 then 1 else if s = 2 then -1 else 0) + dp r
theorem wc_app : ∀ (L N : List Int), wc (L ++ N) = wc L + wc N
  | [], N => by rw [wc, Int.zero_add]; rfl
  | s :: r, N => by rw [List.cons_append, wc, wc, wc_app r N]; omega
theorem dp_app : ∀ (L N : List Int), dp (L ++ N) = dp L + dp N
  | [], N => by rw [dp, Int.zero_add]; rfl
  | s :: r, N => by rw [List.cons_append, dp, dp, dp_app r N]; omega
def bal (L : List Int) : Prop := dp L = 0 ∧ ∀ A B, L = A ++ B → 0 ≤ dp A
def val (m : Int) (N : List Int) : Prop := wc N = m ∧ bal N ∧ ∀ A B, N = A ++ B → B ≠ [] → wc A < m ∨ 0 < dp A
theorem val_pf {m : Int} {L C : List Int} (h1 : val m L) (h2 : val m (L ++ C)) : C = [] := by
  rcases Classical.em (C = []) with e | e
  · exact e
  · have := h2.2.2 L C rfl e
    have a := h1.1
    have b := h1.2.1.1
    omega
theorem bal_app {L N : List Int} (h1 : bal L) (h2 : bal N) : bal (L ++ N) := by
  refine ⟨by rw [dp_app, h1.1, h2.1]; rfl, fun A B e => ?_⟩
  rcases List.append_eq_append_iff.mp e with ⟨c, e1, e2⟩ | ⟨c, e1, e2⟩
  · rw [e1, dp_app, h1.1]
    have := h2.2 c B e2
    omega
  · exact h1.2 A c e1
theorem val_app {m1 m2 : Int} {L N : List Int} (h1 : val m1 L) (h2 : val m2 N) (hm : 1 ≤ m2) : val (m1 + m2) (L ++ N) := by
  refine ⟨by rw [wc_app, h1.1, h2.1], bal_app h1.2.1 h2.2.1, fun A B e hB => ?_⟩
  rcases List.append_eq_append_iff.mp e with ⟨c, e1, e2⟩ | ⟨c, e1, e2⟩
  · rw [e1, wc_app, dp_app, h1.1, h1.2.1.1]
    have := h2.2.2 c B e2 hB
    omega
  · by_cases hc : c = []
    · rw [hc, List.append_nil] at e1
      rw [← e1, h1.1]
      omega
    · have := h1.2.2 A c e1 hc
      omega
/-- a symbol that is no word and no parenthesis -/
def neu (s : Int) : Prop := (3 ≤ s ∧ s ≤ 11) ∨ 20 ≤ s
theorem neu_wc {s : Int} (h : neu s) (r : List Int) : wc (s :: r) = wc r ∧ dp (s :: r) = dp r := by
  unfold neu at h
  constructor
  · rw [wc, if_neg (by omega)]; omega
  · rw [dp, if_neg (by omega), if_neg (by omega)]; omega
theorem val_cons {m s : Int} {L : List Int} (hs : neu s) (h : val m L) (hm : 1 ≤ m) : val m (s :: L) := by
  obtain ⟨h1, h2, h3⟩ := h
  refine ⟨by rw [(neu_wc hs L).1]; exact h1, ⟨by rw [(neu_wc hs L).2]; exact h2.1, fun A B e => ?_⟩, fun A B e hB => ?_⟩
  · cases A with
    | nil => exact Int.le_refl _
    | cons x A =>
      rw [List.cons_append] at e
      injection e with e1 e2
      rw [← e1, (neu_wc hs A).2]
      exact h2.2 A B e2
  · cases A with
    | nil => exact Or.inl (by rw [wc]; omega)
    | cons x A =>
      rw [List.cons_append] at e
      injection e with e1 e2
      rw [← e1, (neu_wc hs A).1, (neu_wc hs A).2]
      exact h3 A B e2 hB
theorem wd_wc {s : Int} (h : 12 ≤ s ∧ s ≤ 19) (r : List Int) : wc (s :: r) = 1 + wc r ∧ dp (s :: r) = dp r := by
  constructor
  · rw [wc, if_pos h]
  · rw [dp, if_neg (by omega), if_neg (by omega)]; omega
theorem val_w {s : Int} (h : 12 ≤ s ∧ s ≤ 19) : val 1 [s] := by
  refine ⟨by rw [(wd_wc h []).1]; rfl, ⟨by rw [(wd_wc h []).2]; rfl, fun A B e => ?_⟩, fun A B e hB => ?_⟩
  · cases A with
    | nil => exact Int.le_refl _
    | cons x A =>
      rw [List.cons_append] at e
      injection e with e1 e2
      have : A = [] := by cases A with | nil => rfl | cons y A => exact absurd e2 (by simp)
      rw [this, ← e1, (wd_wc h []).2]
      exact Int.le_refl _
  · cases A with
    | nil => exact Or.inl (by rw [wc]; omega)
    | cons x A =>
      rw [List.cons_append] at e
      injection e with e1 e2
      have : A = [] ∧ B = [] := List.append_eq_nil_iff.mp e2.symm
      exact absurd this.2 hB
theorem val_2 {x s : Int} (hx : neu x) (h : 12 ≤ s ∧ s ≤ 19) : val 1 [x, s] := val_cons hx (val_w h) (by omega)
/-- y, a word, what is in parentheses -/
theorem val_wrap {m y S : Int} {L : List Int} (hy : neu y) (hS : 12 ≤ S ∧ S ≤ 19) (hb : bal L) (hw : wc L = m) (hm : 1 ≤ m) : val (m + 1) ([y, S, 1] ++ (L ++ [2])) := by
  have d1 : ∀ r, wc (1 :: r) = wc r ∧ dp (1 :: r) = 1 + dp r := fun r => by rw [wc, dp]; simp
  have d2 : wc [2] = 0 ∧ dp [2] = -1 := by decide
  have key : ∀ A B, L ++ [2] = A ++ B → 0 ≤ 1 + dp A ∧ (B ≠ [] → 0 < 1 + dp A) := by
    intro A B e
    rcases List.append_eq_append_iff.mp e with ⟨c, e1, e2⟩ | ⟨c, e1, e2⟩
    · rw [e1, dp_app, hb.1]
      cases c with
      | nil => exact ⟨by decide, fun _ => by decide⟩
      | cons z c =>
        rw [List.cons_append] at e2
        injection e2 with e3 e4
        have e5 := List.append_eq_nil_iff.mp e4.symm
        rw [← e3, e5.1]
        exact ⟨by rw [d2.2]; decide, fun hB => absurd e5.2 hB⟩
    · have := hb.2 A c e1
      exact ⟨by omega, fun _ => by omega⟩
  show val (m + 1) (y :: S :: 1 :: (L ++ [2]))
  refine val_cons hy ⟨?_, ⟨?_, fun A B e => ?_⟩, fun A B e hB => ?_⟩ (by omega)
  · rw [(wd_wc hS _).1, (d1 _).1, wc_app, hw, d2.1]; omega
  · rw [(wd_wc hS _).2, (d1 _).2, dp_app, hb.1, d2.2]; rfl
  · cases A with
    | nil => exact Int.le_refl _
    | cons x A =>
      rw [List.cons_append] at e
      injection e with e1 e2
      rw [← e1, (wd_wc hS _).2]
      cases A with
      | nil => exact Int.le_refl _
      | cons x2 A =>
        rw [List.cons_append] at e2
        injection e2 with e3 e4
        rw [← e3, (d1 _).2]
        exact (key A B e4).1
  · cases A with
    | nil => exact Or.inl (by rw [wc]; omega)
    | cons x A =>
      rw [List.cons_append] at e
      injection e with e1 e2
      rw [← e1, (wd_wc hS _).1, (wd_wc hS _).2]
      cases A with
      | nil => exact Or.inl (by rw [wc]; omega)
      | cons x2 A =>
        rw [List.cons_append] at e2
        injection e2 with e3 e4
        rw [← e3, (d1 _).2]
        exact Or.inr ((key A B e4).2 hB)
theorem wds_bal : ∀ (n : Nat) (f : Int), 0 ≤ f → f + n ≤ 8 → bal (wds n f) ∧ wc (wds n f) = n
  | 0, f, _, _ => ⟨⟨rfl, fun A B e => by
      have := List.append_eq_nil_iff.mp (show A ++ B = [] from e.symm)
      rw [this.1]; exact Int.le_refl _⟩, rfl⟩
  | n + 1, f, h0, h1 => by
    obtain ⟨h2, h3⟩ := wds_bal n (f + 1) (by omega) (by omega)
    have hw : 12 ≤ 12 + f ∧ 12 + f ≤ 19 := by omega
    have e : wds (n + 1) f = [12 + f] ++ wds n (f + 1) := rfl
    rw [e]
    exact ⟨bal_app (val_w hw).2.1 h2, by rw [wc_app, (val_w hw).1, h3]; omega⟩
end SpecMName
