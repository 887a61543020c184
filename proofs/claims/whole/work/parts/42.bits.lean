/-! bits -/
section SpecBits
theorem b_nI {a : Nat} (h : a < 2 ^ 31) : (Int32.ofNat a).toInt = (a : Int) := nI_toInt h
theorem b_lN {a : Nat} (h : a < 2 ^ 63) : (Int64.ofNat a).toInt = (a : Int) := pk_lT h
theorem b_and {a b : Nat} (ha : a < 2 ^ 31) : jand a b = ((a &&& b : Nat) : Int) := by
  unfold jand
  rw [Int32.ofInt_eq_ofNat, Int32.ofInt_eq_ofNat, show Int32.ofNat a &&& Int32.ofNat b = Int32.ofNat (a &&& b) from Int32.toBitVec_inj.mp (by simp [Int32.toBitVec_and]), b_nI]
  exact Nat.lt_of_le_of_lt Nat.and_le_left ha
theorem b_or {a b : Nat} (ha : a < 2 ^ 31) (hb : b < 2 ^ 31) : jor a b = ((a ||| b : Nat) : Int) := by
  unfold jor
  rw [Int32.ofInt_eq_ofNat, Int32.ofInt_eq_ofNat, show Int32.ofNat a ||| Int32.ofNat b = Int32.ofNat (a ||| b) from Int32.toBitVec_inj.mp (by simp [Int32.toBitVec_or]), b_nI]
  exact Nat.or_lt_two_pow ha hb
theorem b_lor {a b : Nat} (ha : a < 2 ^ 63) (hb : b < 2 ^ 63) : jlor a b = ((a ||| b : Nat) : Int) := by
  unfold jlor
  rw [Int64.ofInt_eq_ofNat, Int64.ofInt_eq_ofNat, show Int64.ofNat a ||| Int64.ofNat b = Int64.ofNat (a ||| b) from Int64.toBitVec_inj.mp (by simp [Int64.toBitVec_or]), b_lN]
  exact Nat.or_lt_two_pow ha hb
theorem b_shl1 : ∀ p : Fin 31, jshl 1 (p.val : Int) = ((2 ^ p.val : Nat) : Int) := by decide +kernel
theorem b_lshl : ∀ (v : Fin 32) (k : Fin 12), jlshl (v.val : Int) (55 - 5 * (k.val : Int)) = ((v.val * 2 ^ (55 - 5 * k.val) : Nat) : Int) := by decide +kernel
theorem b_l1 : ∀ k : Fin 16, jlshl 1 (4 * (k.val : Int)) = ((2 ^ (4 * k.val) : Nat) : Int) := by decide +kernel
theorem b_sh64 : ∀ s : Fin 64, ((Int32.ofInt (s.val : Int)).toInt64.toUInt64 &&& Int64.toUInt64 63).toNat = s.val := by decide +kernel
theorem b_lushr {a : Nat} (ha : a < 2 ^ 63) {s : Nat} (hs : s < 64) : jlushr a s = ((a / 2 ^ s : Nat) : Int) := by
  unfold jlushr
  have h1 := b_sh64 ⟨s, hs⟩
  simp only at h1
  have h2 : (Int64.ofInt (a : Int)).toUInt64.toNat = a := by
    rw [Int64.ofInt_eq_ofNat]
    show (BitVec.ofNat 64 a).toNat = a
    rw [BitVec.toNat_ofNat]
    exact Nat.mod_eq_of_lt (by omega)
  have h3 : ((Int64.ofInt (a : Int)).toUInt64 >>> ((Int32.ofInt (s : Int)).toInt64.toUInt64 &&& Int64.toUInt64 63)).toNat = a / 2 ^ s := by
    rw [UInt64.toNat_shiftRight, h1, h2, Nat.mod_eq_of_lt hs, Nat.shiftRight_eq_div_pow]
  have h4 : ((Int64.ofInt (a : Int)).toUInt64 >>> ((Int32.ofInt (s : Int)).toInt64.toUInt64 &&& Int64.toUInt64 63)) = UInt64.ofNat (a / 2 ^ s) := by
    apply UInt64.toNat_inj.mp
    rw [h3, UInt64.toNat_ofNat']
    exact (Nat.mod_eq_of_lt (Nat.lt_of_le_of_lt (Nat.div_le_self _ _) (by omega))).symm
  rw [h4]
  show (Int64.ofNat (a / 2 ^ s)).toInt = _
  exact b_lN (Nat.lt_of_le_of_lt (Nat.div_le_self _ _) ha)
theorem b_tn (x : Int) : (Int32.ofInt x).toBitVec.toNat = (x % 4294967296).toNat := by
  show (BitVec.ofInt 32 x).toNat = _
  rw [BitVec.toNat_ofInt]
  rfl
theorem b_andm (x : Int) (k : Nat) (hk : k ≤ 30) (m : Int) (hm : (Int32.ofInt m).toBitVec.toNat = 2 ^ k - 1) : jand x m = x % (2 ^ k : Nat) := by
  unfold jand
  rw [pk_and (Int32.ofInt x) k hm, nI, b_nI, b_tn]
  · have h0 : (0 : Int) ≤ x % 4294967296 := Int.emod_nonneg _ (by decide)
    rw [Int.natCast_emod, Int.toNat_of_nonneg h0]
    have hd : ((2 ^ k : Nat) : Int) ∣ 4294967296 := by
      have : (4294967296 : Int) = ((2 ^ k : Nat) : Int) * ((2 ^ (32 - k) : Nat) : Int) := by
        rw [← Int.natCast_mul, ← Nat.pow_add, show k + (32 - k) = 32 by omega]
        rfl
      exact ⟨_, this⟩
    exact Int.emod_emod_of_dvd _ hd
  · exact Nat.lt_of_lt_of_le (Nat.mod_lt _ (Nat.two_pow_pos k)) (Nat.pow_le_pow_right (by decide) (by omega))
theorem b_31 (x : Int) : jand x 31 = x % 32 := b_andm x 5 (by decide) 31 (by decide)
theorem b_255 (x : Int) : jand x 255 = x % 256 := b_andm x 8 (by decide) 255 (by decide)
theorem b_1 (x : Int) : jand x 1 = x % 2 := b_andm x 1 (by decide) 1 (by decide)
theorem b_127 (x : Int) : jand x 127 = x % 128 := b_andm x 7 (by decide) 127 (by decide)
theorem b_s32 : ∀ s : Fin 32, ((Int32.ofInt (s.val : Int) &&& 31).toBitVec.smod 32).toNat = s.val := by decide +kernel
theorem b_u32 : ∀ s : Fin 32, (((Int32.ofInt (s.val : Int)).toUInt32 &&& Int32.toUInt32 31).toBitVec % 32).toNat = s.val := by decide +kernel
theorem b_shr {x : Int} (hx : iR x) {s : Nat} (hs : s < 32) : jshr x s = x / (2 ^ s : Nat) := by
  unfold jshr
  rw [pk_shr _ _ s (b_s32 ⟨s, hs⟩), x_ti hx, Int.shiftRight_eq_div_pow]
theorem b_ushr {x : Int} {s : Nat} (hs : s < 32) : jushr x s % 256 = (x % 4294967296) / (2 ^ s : Nat) % 256 := by
  unfold jushr
  have h := pk_ushr (Int32.ofInt x) (Int32.ofInt (s : Int)) s (b_u32 ⟨s, hs⟩)
  have e : ∀ y : Int32, y.toInt % 256 = (y.toBitVec.toNat : Int) % 256 := by
    intro y
    have : y.toInt = y.toBitVec.toInt := rfl
    rw [this, BitVec.toInt_eq_toNat_bmod]
    have hm := Int.bmod_emod (x := (y.toBitVec.toNat : Int)) (m := 2 ^ 32)
    have hd : (256 : Int) ∣ ((2 ^ 32 : Nat) : Int) := ⟨16777216, rfl⟩
    rw [← Int.emod_emod_of_dvd (Int.bmod _ _) hd, hm, Int.emod_emod_of_dvd _ hd]
  rw [e, h, b_tn, Int.natCast_ediv, Int.toNat_of_nonneg (Int.emod_nonneg _ (by decide))]
end SpecBits
