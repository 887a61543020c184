/-! names as numbers -/
section SpecCd
def okN (L : List Int) : Prop := ∀ s ∈ L, 1 ≤ s ∧ s ≤ 31
theorem okN_nil : okN [] := fun _ h => nomatch h
theorem okN_cons {s : Int} {L : List Int} (h1 : 1 ≤ s ∧ s ≤ 31) (h2 : okN L) : okN (s :: L) := fun x hx => (List.mem_cons.mp hx).elim (fun e => e ▸ h1) (h2 x)
theorem okN_app {L M : List Int} (h1 : okN L) (h2 : okN M) : okN (L ++ M) := fun x hx => (List.mem_append.mp hx).elim (h1 x) (h2 x)
theorem okN_take {L : List Int} (h : okN L) (n : Nat) : okN (L.take n) := fun x hx => h x (List.mem_of_mem_take hx)
theorem okN_drop {L : List Int} (h : okN L) (n : Nat) : okN (L.drop n) := fun x hx => h x (List.mem_of_mem_drop hx)
theorem cd_bound : ∀ (n : Nat) (L : List Int), okN L → 0 ≤ cd n L ∧ cd n L < 32 ^ n
  | n, [], _ => by
    have : (0 : Int) < 32 ^ n := Int.pow_pos (by decide)
    cases n <;> simp [cd] <;> omega
  | 0, s :: r, _ => by simp [cd]
  | n + 1, s :: r, h => by
    have h1 := cd_bound n r (fun x hx => h x (List.mem_cons_of_mem _ hx))
    have h2 := h s List.mem_cons_self
    have h3 : (0 : Int) < 32 ^ n := Int.pow_pos (by decide)
    simp only [cd, Int.pow_succ]
    have h4 : 1 * 32 ^ n ≤ s * 32 ^ n := Int.mul_le_mul_of_nonneg_right h2.1 (by omega)
    have h5 : s * 32 ^ n ≤ 31 * 32 ^ n := Int.mul_le_mul_of_nonneg_right h2.2 (by omega)
    omega
theorem cd_snoc : ∀ (n : Nat) (L : List Int) (s : Int), L.length < n → cd n (L ++ [s]) = cd n L + s * 32 ^ (n - 1 - L.length)
  | 0, L, s, h => by omega
  | n + 1, [], s, _ => by simp [cd]
  | n + 1, x :: r, s, h => by
    have h1 := cd_snoc n r s (by simpa using h)
    simp only [List.cons_append, cd, h1, List.length_cons]
    rw [show n + 1 - 1 - (r.length + 1) = n - 1 - r.length by omega]
    omega
theorem cd_far : ∀ (n : Nat) (L : List Int) (s : Int), n ≤ L.length → cd n (L ++ [s]) = cd n L
  | 0, [], s, _ => by simp [cd]
  | 0, x :: r, s, _ => by simp [cd]
  | n + 1, [], s, h => by simp at h
  | n + 1, x :: r, s, h => by
    simp only [List.cons_append, cd, cd_far n r s (by simpa using h)]
theorem cd_split : ∀ (n m : Nat) (L : List Int), cd (n + m) L = cd n L * 32 ^ m + cd m (L.drop n)
  | 0, m, L => by
    cases L <;> simp [cd]
  | n + 1, m, [] => by
    rw [show n + 1 + m = (n + m) + 1 by omega]
    simp [cd]
  | n + 1, m, x :: r => by
    rw [show n + 1 + m = (n + m) + 1 by omega]
    simp only [cd, cd_split n m r, List.drop_succ_cons]
    rw [Int.add_mul, Int.mul_assoc, ← Int.pow_add]
    omega
theorem cd_dig : ∀ (n : Nat) (L : List Int) (k : Nat), okN L → k < n → cd n L / 32 ^ (n - 1 - k) % 32 = L.getD k 0
  | 0, L, k, _, h => by omega
  | n + 1, [], k, _, h => by simp [cd]
  | n + 1, x :: r, 0, ho, h => by
    have hb := cd_bound n r (fun y hy => ho y (List.mem_cons_of_mem _ hy))
    have hx := ho x List.mem_cons_self
    have h3 : (0 : Int) < 32 ^ n := Int.pow_pos (by decide)
    simp only [cd, List.getD_cons_zero, Nat.sub_zero, Nat.add_sub_cancel]
    rw [Int.add_comm, Int.add_mul_ediv_right _ _ (by omega), Int.ediv_eq_zero_of_lt hb.1 hb.2]
    omega
  | n + 1, x :: r, k + 1, ho, h => by
    have h1 := cd_dig n r k (fun y hy => ho y (List.mem_cons_of_mem _ hy)) (by omega)
    simp only [cd, List.getD_cons_succ]
    rw [show n + 1 - 1 - (k + 1) = n - 1 - k by omega]
    have e : (32 : Int) ^ n = 32 ^ k * 32 * 32 ^ (n - 1 - k) := by
      rw [← Int.pow_succ, ← Int.pow_add]
      congr 1
      omega
    have h3 : (0 : Int) < 32 ^ (n - 1 - k) := Int.pow_pos (by decide)
    rw [Int.add_comm, show x * (32 : Int) ^ n = (x * 32 ^ k * 32) * 32 ^ (n - 1 - k) by rw [e]; simp [Int.mul_assoc], Int.add_mul_ediv_right _ _ (by omega), Int.add_mul_emod_self_right, h1]
theorem cd_inj : ∀ (n : Nat) (L M : List Int), okN L → okN M → L.length ≤ n → M.length ≤ n → cd n L = cd n M → L = M
  | 0, L, M, _, _, h1, h2, _ => by
    rw [List.length_eq_zero_iff.mp (Nat.le_zero.mp h1), List.length_eq_zero_iff.mp (Nat.le_zero.mp h2)]
  | n + 1, [], [], _, _, _, _, _ => rfl
  | n + 1, [], y :: q, _, ho, _, _, h => by
    have hb := cd_bound n q (fun z hz => ho z (List.mem_cons_of_mem _ hz))
    have hy := ho y List.mem_cons_self
    have h3 : (0 : Int) < 32 ^ n := Int.pow_pos (by decide)
    have h4 : 1 * 32 ^ n ≤ y * 32 ^ n := Int.mul_le_mul_of_nonneg_right hy.1 (by omega)
    simp only [cd] at h
    omega
  | n + 1, x :: r, [], ho, _, _, _, h => by
    have hb := cd_bound n r (fun z hz => ho z (List.mem_cons_of_mem _ hz))
    have hy := ho x List.mem_cons_self
    have h3 : (0 : Int) < 32 ^ n := Int.pow_pos (by decide)
    have h4 : 1 * 32 ^ n ≤ x * 32 ^ n := Int.mul_le_mul_of_nonneg_right hy.1 (by omega)
    simp only [cd] at h
    omega
  | n + 1, x :: r, y :: q, h1, h2, h3, h4, h => by
    have b1 := cd_bound n r (fun z hz => h1 z (List.mem_cons_of_mem _ hz))
    have b2 := cd_bound n q (fun z hz => h2 z (List.mem_cons_of_mem _ hz))
    have hp : (0 : Int) < 32 ^ n := Int.pow_pos (by decide)
    simp only [cd] at h
    have e1 : (x * 32 ^ n + cd n r) / 32 ^ n = x := by rw [Int.add_comm, Int.add_mul_ediv_right _ _ (by omega), Int.ediv_eq_zero_of_lt b1.1 b1.2]; omega
    have e2 : (y * 32 ^ n + cd n q) / 32 ^ n = y := by rw [Int.add_comm, Int.add_mul_ediv_right _ _ (by omega), Int.ediv_eq_zero_of_lt b2.1 b2.2]; omega
    have exy : x = y := by rw [← e1, h, e2]
    subst exy
    have := cd_inj n r q (fun z hz => h1 z (List.mem_cons_of_mem _ hz)) (fun z hz => h2 z (List.mem_cons_of_mem _ hz)) (by simpa using h3) (by simpa using h4) (by omega)
    rw [this]
theorem cd_36 (L : List Int) : cd 36 L = cd 12 L * 1329227995784915872903807060280344576 + cd 12 (L.drop 12) * 1152921504606846976 + cd 12 (L.drop 24) := by
  rw [show 36 = 12 + 24 from rfl, cd_split 12 24, show 24 = 12 + 12 from rfl, cd_split 12 12, List.drop_drop]
  have h1 : (32 : Int) ^ (12 + 12) = 1329227995784915872903807060280344576 := by decide
  have h2 : (32 : Int) ^ 12 = 1152921504606846976 := by decide
  rw [h1, h2]
  omega
end SpecCd
