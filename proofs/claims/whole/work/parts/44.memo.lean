/-! Memo: names, offers -/
section SpecMemo
variable {G : xG} {l : Launch} {d : Nat} {μ : xMem} {P : Int → xMem → Prop} {PV' : xMem → Prop}
theorem cd_dvd : ∀ (n : Nat) (L : List Int), L.length ≤ n → ∃ t : Int, cd n L = t * 32 ^ (n - L.length)
  | n, [], _ => ⟨0, by cases n <;> simp [cd]⟩
  | 0, x :: r, h => by simp at h
  | n + 1, x :: r, h => by
    obtain ⟨t, ht⟩ := cd_dvd n r (by simpa using h)
    refine ⟨x * 32 ^ r.length + t, ?_⟩
    have hl : r.length ≤ n := by simpa using h
    have e : n + 1 - (x :: r).length = n - r.length := by simp
    rw [e, cd, ht, Int.add_mul, Int.mul_assoc, ← Int.pow_add, show r.length + (n - r.length) = n by omega]
theorem put12 {S : List Int} (hS : okN S) {r : Nat} (hr : S.length = r) (hlt : r < 12) {v : Int} (hv : 1 ≤ v ∧ v ≤ 31) : jlor (cd 12 S) (jlshl v (55 - 5 * (r : Int))) = cd 12 (S ++ [v]) := by
  obtain ⟨b1, b2⟩ := cd_bound 12 S hS
  obtain ⟨t, ht⟩ := cd_dvd 12 S (by omega)
  rw [cd_snoc 12 S v (by omega)]
  obtain ⟨w, rfl⟩ : ∃ w : Nat, v = (w : Int) := ⟨v.toNat, by omega⟩
  have hw := b_lshl ⟨w, by omega⟩ ⟨r, hlt⟩
  simp only at hw
  rw [hw]
  have h32 : (32 : Int) ^ 12 = 1152921504606846976 := by decide
  rw [h32] at b2
  have ht0 : 0 ≤ t := by
    rcases (show 0 ≤ t ∨ t < 0 by omega) with h | h
    · exact h
    · have hp : (0 : Int) < 32 ^ (12 - S.length) := Int.pow_pos (by decide)
      have := Int.mul_neg_of_neg_of_pos h hp
      omega
  obtain ⟨u, rfl⟩ : ∃ u : Nat, t = (u : Int) := ⟨t.toNat, by omega⟩
  have ep : (32 : Int) ^ (12 - S.length) = ((2 ^ (60 - 5 * r) : Nat) : Int) := by
    rw [hr, show (32 : Int) = ((2 ^ 5 : Nat) : Int) from rfl, ← Int.natCast_pow, ← Nat.pow_mul]
    congr 2
    omega
  have ea : cd 12 S = ((2 ^ (60 - 5 * r) * u : Nat) : Int) := by
    rw [ht, ep, ← Int.natCast_mul, Nat.mul_comm]
  have hb : w * 2 ^ (55 - 5 * r) < 2 ^ (60 - 5 * r) := by
    rw [show 60 - 5 * r = 5 + (55 - 5 * r) by omega, Nat.pow_add]
    exact Nat.mul_lt_mul_of_pos_right (by omega) (Nat.two_pow_pos _)
  have hle : 2 ^ (60 - 5 * r) ≤ 2 ^ 60 := Nat.pow_le_pow_right (by decide) (by omega)
  have ha : 2 ^ (60 - 5 * r) * u < 2 ^ 63 := by
    have : ((2 ^ (60 - 5 * r) * u : Nat) : Int) < 1152921504606846976 := by rw [← ea]; exact b2
    omega
  rw [ea, b_lor ha (by omega), ← Nat.two_pow_add_eq_or_of_lt hb]
  have e5 : (32 : Int) ^ (12 - 1 - S.length) = ((2 ^ (55 - 5 * r) : Nat) : Int) := by
    rw [hr, show (32 : Int) = ((2 ^ 5 : Nat) : Int) from rfl, ← Int.natCast_pow, ← Nat.pow_mul]
    congr 2
    omega
  rw [e5]
  simp
/-- the name that a place holds; the draft -/
def Nm (μ : xMem) (q : Int) (N : List Int) : Prop := μ 31 (q * 3) = cd 12 N ∧ μ 31 (q * 3 + 1) = cd 12 (N.drop 12) ∧ μ 31 (q * 3 + 2) = cd 12 (N.drop 24)
def Dr (μ : xMem) (L : List Int) : Prop := okN L ∧ L.length ≤ 36 ∧ μ 27 5 = (L.length : Int) ∧ μ 32 0 = cd 12 L ∧ μ 32 1 = cd 12 (L.drop 12) ∧ μ 32 2 = cd 12 (L.drop 24)
/-- nothing but the draft has changed -/
def FrD (μ μ' : xMem) : Prop := ∀ k i, k ≠ 32 → (k ≠ 27 ∨ i ≠ 5) → μ' k i = μ k i
theorem FrD.rf : FrD μ μ := fun _ _ _ _ => rfl
theorem FrD.tr {m1 m2 m3 : xMem} (h1 : FrD m1 m2) (h2 : FrD m2 m3) : FrD m1 m3 := fun k i a b => (h2 k i a b).trans (h1 k i a b)
theorem s_put {L : List Int} {v : Int} (hL : Dr μ L) (hl : L.length < 36) (hv : 1 ≤ v ∧ v ≤ 31) (h : ∀ μ', Dr μ' (L ++ [v]) → FrD μ μ' → PV' μ') : CV G l (d + 1) mX5_put [xr G 27, xi v] μ PV' := by
  obtain ⟨h1, h2, h3, h4, h5, h6⟩ := hL
  apply E_X5_put
  refine ⟨by omega, fun _ => by omega, fun _ => ⟨by omega, by omega, by omega, h _ ?_ ?_⟩⟩
  · refine ⟨okN_app h1 (okN_cons hv okN_nil), by simp; omega, by simp [st2, h3], ?_⟩
    rw [h3]
    rcases (show L.length < 12 ∨ (12 ≤ L.length ∧ L.length < 24) ∨ 24 ≤ L.length by omega) with c | c | c
    · have e1 : (L.length : Int) / 12 = 0 := by omega
      have e2 : (L.length : Int) % 12 = (L.length : Int) := by omega
      have e3 : (L ++ [v]).drop 12 = [] := List.drop_eq_nil_of_le (by simp; omega)
      have e4 : (L ++ [v]).drop 24 = [] := List.drop_eq_nil_of_le (by simp; omega)
      have e5 : L.drop 12 = [] := List.drop_eq_nil_of_le (by omega)
      have e6 : L.drop 24 = [] := List.drop_eq_nil_of_le (by omega)
      rw [e3, e4, e1, e2, h4, put12 h1 rfl c hv]
      rw [e5] at h5
      rw [e6] at h6
      simp [st2, h5, h6]
    · have e1 : (L.length : Int) / 12 = 1 := by omega
      have e2 : (L.length : Int) % 12 = ((L.length - 12 : Nat) : Int) := by omega
      have e3 : (L ++ [v]).drop 12 = L.drop 12 ++ [v] := List.drop_append_of_le_length (by omega)
      have e4 : (L ++ [v]).drop 24 = [] := List.drop_eq_nil_of_le (by simp; omega)
      have e6 : L.drop 24 = [] := List.drop_eq_nil_of_le (by omega)
      rw [e3, e4, e1, e2, h5, put12 (okN_drop h1 12) (by simp) (by omega) hv, cd_far 12 L v (by omega)]
      rw [e6] at h6
      simp [st2, h4, h6]
    · have e1 : (L.length : Int) / 12 = 2 := by omega
      have e2 : (L.length : Int) % 12 = ((L.length - 24 : Nat) : Int) := by omega
      have e3 : (L ++ [v]).drop 12 = L.drop 12 ++ [v] := List.drop_append_of_le_length (by omega)
      have e4 : (L ++ [v]).drop 24 = L.drop 24 ++ [v] := List.drop_append_of_le_length (by omega)
      rw [e3, e4, e1, e2, h6, put12 (okN_drop h1 24) (by simp) (by omega) hv, cd_far 12 L v (by omega), cd_far 12 (L.drop 12) v (by simp; omega)]
      simp [st2, h4, h5]
  · intro k i hk hi
    have h9 : ¬ (k = 27 ∧ i = 5) := fun z => hi.elim (fun q => q z.1) (fun q => q z.2)
    simp only [st2]
    rw [if_neg h9, if_neg (fun z => hk z.1)]
theorem s_putWord {L : List Int} {v w : Int} (hL : Dr μ L) (hl : L.length + 2 ≤ 36) (hv : 1 ≤ v ∧ v ≤ 31) (hw : 0 ≤ w ∧ w ≤ 19) (h : ∀ μ', Dr μ' (L ++ [v, 12 + w]) → FrD μ μ' → PV' μ') : CV G l (d + 2) mX5_putWord [xr G 27, xi v, xi w] μ PV' := by
  apply E_X5_putWord
  refine s_put hL (by omega) hv (fun m1 h1 f1 => s_put h1 (by simp; omega) (by omega) (fun m2 h2 f2 => h m2 ?_ (f1.tr f2)))
  rw [List.append_assoc] at h2
  exact h2
theorem s_putLink {L : List Int} {w : Int} (hL : Dr μ L) (hl : L.length + 2 ≤ 36) (hw : -1 ≤ w ∧ w ≤ 19) (h : ∀ μ', Dr μ' (L ++ nLnk w) → FrD μ μ' → PV' μ') : CV G l (d + 3) mX5_putLink [xr G 27, xi w] μ PV' := by
  apply E_X5_putLink
  refine ⟨by omega, fun e => h μ ?_ FrD.rf, fun e => s_putWord hL hl (by omega) (by omega) (fun m2 h2 f2 => h m2 ?_ f2)⟩
  · rw [nLnk, if_pos e, List.append_nil]
    exact hL
  · rw [nLnk, if_neg e]
    exact h2
theorem sym_val {N : List Int} (hN : okN N) {q : Int} {k : Nat} (hk : k < 36) (h : Nm μ q N) : jand (jlushr (μ 31 ((q * 3) + ((k : Int) / 12))) (55 - (5 * ((k : Int) % 12)))) 31 = N.getD k 0 := by
  have main : ∀ (m r : Nat), m ≤ 2 → r < 12 → k = 12 * m + r → μ 31 ((q * 3) + (m : Int)) = cd 12 (N.drop (12 * m)) → jand (jlushr (μ 31 ((q * 3) + ((k : Int) / 12))) (55 - (5 * ((k : Int) % 12)))) 31 = N.getD k 0 := by
    intro m r hm hr hk2 hv
    obtain ⟨b1, b2⟩ := cd_bound 12 (N.drop (12 * m)) (okN_drop hN _)
    have h32 : (32 : Int) ^ 12 = 1152921504606846976 := by decide
    rw [h32] at b2
    rw [show (k : Int) / 12 = (m : Int) by omega, show (k : Int) % 12 = (r : Int) by omega, hv, b_31]
    obtain ⟨a, ha⟩ : ∃ a : Nat, cd 12 (N.drop (12 * m)) = (a : Int) := ⟨(cd 12 (N.drop (12 * m))).toNat, by omega⟩
    have hdig := cd_dig 12 (N.drop (12 * m)) r (okN_drop hN _) hr
    rw [ha, show (55 : Int) - 5 * (r : Int) = ((55 - 5 * r : Nat) : Int) by omega, b_lushr (by omega) (by omega)]
    rw [ha] at hdig
    have e5 : (32 : Int) ^ (12 - 1 - r) = ((2 ^ (55 - 5 * r) : Nat) : Int) := by
      rw [show (32 : Int) = ((2 ^ 5 : Nat) : Int) from rfl, ← Int.natCast_pow, ← Nat.pow_mul]
      congr 2
      omega
    rw [Int.natCast_ediv, ← e5, hdig, hk2]
    rw [List.getD_eq_getElem?_getD, List.getD_eq_getElem?_getD, List.getElem?_drop]
  obtain ⟨h0, h1, h2⟩ := h
  rcases (show k < 12 ∨ (12 ≤ k ∧ k < 24) ∨ 24 ≤ k by omega) with c | c | c
  · exact main 0 k (by omega) c (by omega) (by simpa using h0)
  · exact main 1 (k - 12) (by omega) (by omega) (by omega) (by simpa using h1)
  · exact main 2 (k - 24) (by omega) (by omega) (by omega) (by simpa using h2)
theorem s_symbolAt {N : List Int} (hN : okN N) {q k : Int} (hq : 0 ≤ q ∧ q < 7922) (hk : 0 ≤ k ∧ k < 36) (hm : Nm μ q N) (h : P (N.getD k.toNat 0) μ) : CI G l (d + 1) mX5_symbolAt [xr G 27, xi q, xi k] μ P := by
  apply E_X5_symbolAt
  refine ⟨by omega, by omega, ?_⟩
  obtain ⟨n, rfl⟩ : ∃ n : Nat, k = (n : Int) := ⟨k.toNat, by omega⟩
  rw [sym_val hN (by omega) hm]
  simpa using h
theorem Nm.kept {q : Int} {N : List Int} {μ' : xMem} (h : Nm μ q N) (hf : FrD μ μ') : Nm μ' q N := by
  obtain ⟨h0, h1, h2⟩ := h
  exact ⟨by rw [hf 31 _ (by decide) (Or.inl (by decide))]; exact h0, by rw [hf 31 _ (by decide) (Or.inl (by decide))]; exact h1, by rw [hf 31 _ (by decide) (Or.inl (by decide))]; exact h2⟩
theorem getD_pos {N : List Int} (hN : okN N) {k : Nat} : N.getD k 0 = 0 ↔ N.length ≤ k := by
  rcases (show k < N.length ∨ N.length ≤ k by omega) with h | h
  · have := hN (N[k]) (List.getElem_mem h)
    rw [List.getD_eq_getElem?_getD, List.getElem?_eq_getElem h]
    simp
    omega
  · simp [List.getD_eq_getElem?_getD, List.getElem?_eq_none h, h]
theorem s_putName {N : List Int} (hN : okN N) {q : Int} (hq : 0 ≤ q ∧ q < 7922) {L : List Int} (hL : Dr μ L) (hm : Nm μ q N) (hl : L.length + N.length ≤ 36) (h : ∀ μ', Dr μ' (L ++ N) → FrD μ μ' → PV' μ') : CV G l (d + 2) mX5_putName [xr G 27, xi q] μ PV' := by
  apply E_X5_putName
  have main : ∀ (n : Nat) (k : Nat) (m : xMem), k + n = N.length → Dr m (L ++ N.take k) → FrD μ m → K_X5_putName_2 G l (d + 2) PV' q (k : Int) m := by
    intro n
    induction n with
    | zero =>
      intro k m hk hD hF
      apply B_X5_putName_2
      have e : N.take k = N := List.take_of_length_le (by omega)
      rw [e] at hD
      refine ⟨by omega, fun _ => h m hD hF, fun hk2 => s_symbolAt hN hq (by omega) (hm.kept hF) ⟨fun hz => ?_, fun _ => h m hD hF⟩⟩
      exact absurd ((getD_pos hN).mpr (by simp; omega)) hz
    | succ n ih =>
      intro k m hk hD hF
      apply B_X5_putName_2
      have hlt : k < N.length := by omega
      refine ⟨by omega, fun hk2 => by omega, fun hk2 => s_symbolAt hN hq (by omega) (hm.kept hF) ⟨fun hz => ?_, fun hz => ?_⟩⟩
      · have hb := hN (N[k]) (List.getElem_mem hlt)
        have eg : N.getD (k : Int).toNat 0 = N[k] := by
          rw [List.getD_eq_getElem?_getD]
          simp [List.getElem?_eq_getElem hlt]
        rw [eg]
        refine s_put hD (by simp; omega) hb (fun m2 h2 f2 => ?_)
        have e2 : L ++ N.take k ++ [N[k]] = L ++ N.take (k + 1) := by
          rw [List.append_assoc, List.take_add_one, List.getElem?_eq_getElem hlt]
          rfl
        rw [e2] at h2
        exact ih (k + 1) m2 (by omega) h2 (hF.tr f2)
      · have := (getD_pos hN).mp hz
        simp at this
        omega
  exact main N.length 0 μ (by omega) (by simpa using hL) FrD.rf
end SpecMemo
