/-! the start of the law: the plain machine's world out of the Statement's words -/
section Start
theorem nest_tab : ∀ w : Cond, xnest w = true → w.onTables = true := by
  intro w h
  cases w <;> first | rfl | (simp [xnest] at h)
theorem i32_nat (x : Int32) : Int32.ofNat x.toUInt32.toNat = x := by
  cases x with
  | ofUInt32 u =>
    have h : UInt32.ofNat u.toNat = u := UInt32.ofNat_toNat
    exact congrArg Int32.ofUInt32 h
theorem st_hA {s : State} : ∀ a : Nat, a < s.heap.size → ¬ (fun q : Nat => s.heap.size ≤ q) a := fun a h => Nat.not_le.mpr h
theorem st_ps {b : Nat} {s : State} (hts : ∀ w ∈ lw_tbl, w.before #[Value.ref b] s = true) (hf : ∀ c ∈ flatC (Jvm.Cond.and given_1 narrow_1), c.before #[Value.ref b] s = true) : ∃ a0 : Nat, va_Z "ClueRoom" "PLAY_SYMBOLS" "[I" (.ref a0) (fun q : Nat => s.heap.size ≤ q) s s.heap ∧ va_T .int a0 10 (fun j => xi (xPS j)) (fun q : Nat => s.heap.size ≤ q) s s.heap := by
  obtain ⟨a0, ha0, hT0⟩ := va_Tof (args := #[Value.ref b]) (s := s) (tm := (.static "ClueRoom" "PLAY_SYMBOLS" "[I")) (ty := .int) (N := 10) (f := fun j => xi (xPS j)) (A := (fun q : Nat => s.heap.size ≤ q)) (by decide) (hf _ nf_psA) (va_eqt (hf _ nf_psL)) (fun j hj => va_eqt (hf _ (nf_in (7 + j) (nf_el j hj)))) st_hA
  exact ⟨a0, va_Zref (hts _ lt_ps) (hts _ lt_iC) ha0 st_hA, hT0⟩
theorem st_sy {b : Nat} {s : State} (hts : ∀ w ∈ lw_tbl, w.before #[Value.ref b] s = true) (hf : ∀ c ∈ flatC (Jvm.Cond.and given_1 narrow_1), c.before #[Value.ref b] s = true) : ∃ k v : Nat, vk_R "ClueRoom$Reader" 82 xSym k s ∧ vk_S 1 [32] [xSymB] (fun _ => k) (fun _ => v) (fun q : Nat => s.heap.size ≤ q) s s.heap := by
  have z1 : ∀ i : Nat, i < 1 → i = 0 := fun i hi => by omega
  obtain ⟨adK, adV, hS9, hev⟩ := vk_Sof (N := 1) (tm := fun _ => (.string "ClueRoom$Reader" 82)) (len := [32]) (byt := [xSymB]) (A := (fun q : Nat => s.heap.size ≤ q)) (args := #[Value.ref b]) (s := s) (fun i hi => by obtain rfl := z1 i hi; decide) (fun i hi => hf _ nf_sx) (fun i hi => hf _ nf_sc) (fun i hi => hf _ nf_sa) (fun i hi => by obtain rfl := z1 i hi; exact hf _ nf_sl) (fun i hi j hj => by
    obtain rfl := z1 i hi
    exact hf _ (nf_in (41 + j) (nf_sy j hj))) (fun i j hi hj hij => absurd ((z1 i hi).trans (z1 j hj).symm) hij) st_hA
  refine ⟨adK 0, adV 0, vk_R.of (A := #[Value.ref b]) (hts _ lt_st) (hev 0 (by decide)), ⟨fun i hi => ?_, fun i j hi hj _ => (z1 i hi).trans (z1 j hj).symm⟩⟩
  obtain rfl := z1 i hi
  exact hS9.1 0 hi
theorem st_z1 {b : Nat} {s : State} (hts : ∀ w ∈ lw_tbl, w.before #[Value.ref b] s = true) (hf : ∀ c ∈ flatC (Jvm.Cond.and given_1 narrow_1), c.before #[Value.ref b] s = true) : va_Z "java/lang/String" "COMPACT_STRINGS" "Z" (.int 1) (fun q : Nat => s.heap.size ≤ q) s s.heap := va_Zof (hts _ lt_cs) (hts _ lt_iS) (va_eqt (hf _ nf_cs)) st_hA
theorem st_z2 {b : Nat} {s : State} (hts : ∀ w ∈ lw_tbl, w.before #[Value.ref b] s = true) (hf : ∀ c ∈ flatC (Jvm.Cond.and given_1 narrow_1), c.before #[Value.ref b] s = true) : vx_Zq Bundle.tN "UNASSIGNED_STACK" Bundle.steD (fun q : Nat => s.heap.size ≤ q) s s.heap := vx_Zqof (hts _ lt_us) (hts _ lt_iT) (hf _ nf_us) st_hA
theorem st_z3 {b : Nat} {s : State} (hts : ∀ w ∈ lw_tbl, w.before #[Value.ref b] s = true) (hf : ∀ c ∈ flatC (Jvm.Cond.and given_1 narrow_1), c.before #[Value.ref b] s = true) : vx_Zq Bundle.tN "SUPPRESSED_SENTINEL" Bundle.listD (fun q : Nat => s.heap.size ≤ q) s s.heap := vx_Zqof (hts _ lt_su) (hts _ lt_iT) (hf _ nf_su) st_hA
theorem st_z4 {b : Nat} {s : State} (hts : ∀ w ∈ lw_tbl, w.before #[Value.ref b] s = true) (hf : ∀ c ∈ flatC (Jvm.Cond.and given_1 narrow_1), c.before #[Value.ref b] s = true) : va_Zq "jdk/internal/util/Preconditions" "SIOOBE_FORMATTER" "Ljava/util/function/BiFunction;" (fun q : Nat => s.heap.size ≤ q) s s.heap := va_Zqof (hts _ lt_fo) (hts _ lt_iP) (hf _ nf_fo) st_hA
theorem st_kn {b : Nat} {s : State} (hT : ∀ w ∈ xTs, w.before #[Value.ref b] s = true) : ∃ (dC : Nat → ClassId) (dI : Nat → Nat → Nat), ∀ (k : Nat) (q : vw_C), vwCl[k]? = some q → u_Kn s q.1 q.2.1 q.2.2 (dC k) (dI k) := by
  obtain ⟨c0, i0, k0⟩ := u_known (C := RX0) (T := TX0) (N := 5) (n := 5) hT inC0 (hT _ wn_X0)
  obtain ⟨c1, i1, k1⟩ := u_known (C := RX1) (T := TX1) (N := 6) (n := 6) hT inC1 (hT _ wn_X1)
  obtain ⟨c2, i2, k2⟩ := u_known (C := RX2) (T := TX2) (N := 11) (n := 11) hT inC2 (hT _ wn_X2)
  obtain ⟨c3, i3, k3⟩ := u_known (C := RX3) (T := TX3) (N := 9) (n := 9) hT inC3 (hT _ wn_X3)
  obtain ⟨c4, i4, k4⟩ := u_known (C := RX4) (T := TX4) (N := 3) (n := 3) hT inC4 (hT _ wn_X4)
  obtain ⟨c5, i5, k5⟩ := u_known (C := RX5) (T := TX5) (N := 9) (n := 9) hT inC5 (hT _ wn_X5)
  obtain ⟨c6, i6, k6⟩ := u_known (C := RX6) (T := TX6) (N := 8) (n := 8) hT inC6 (hT _ wn_X6)
  obtain ⟨c7, i7, k7⟩ := u_known (C := RX7) (T := TX7) (N := 7) (n := 7) hT inC7 (hT _ wn_X7)
  obtain ⟨c8, i8, k8⟩ := u_known (C := RX8) (T := TX8) (N := 2) (n := 2) hT inC8 (hT _ wn_X8)
  obtain ⟨c9, i9, k9⟩ := u_known (C := RX9) (T := TX9) (N := 11) (n := 11) hT inC9 (hT _ wn_X9)
  obtain ⟨c10, i10, k10⟩ := u_known (C := RX10) (T := TX10) (N := 10) (n := 10) hT inC10 (hT _ wn_X10)
  obtain ⟨c11, i11, k11⟩ := u_known (C := RX11) (T := TX11) (N := 13) (n := 13) hT inC11 (hT _ wn_X11)
  obtain ⟨c12, i12, k12⟩ := u_known (C := RX12) (T := TX12) (N := 82) (n := 82) hT inC12 (hT _ wn_X12)
  refine ⟨fun k => if k = 0 then c0 else if k = 1 then c1 else if k = 2 then c2 else if k = 3 then c3 else if k = 4 then c4 else if k = 5 then c5 else if k = 6 then c6 else if k = 7 then c7 else if k = 8 then c8 else if k = 9 then c9 else if k = 10 then c10 else if k = 11 then c11 else c12, fun k => if k = 0 then i0 else if k = 1 then i1 else if k = 2 then i2 else if k = 3 then i3 else if k = 4 then i4 else if k = 5 then i5 else if k = 6 then i6 else if k = 7 then i7 else if k = 8 then i8 else if k = 9 then i9 else if k = 10 then i10 else if k = 11 then i11 else i12, ?_⟩
  intro k q hq
  match k, hq with
  | 0, hq =>
    obtain rfl : (RX0, TX0, 5) = q := Option.some.inj hq
    exact k0
  | 1, hq =>
    obtain rfl : (RX1, TX1, 6) = q := Option.some.inj hq
    exact k1
  | 2, hq =>
    obtain rfl : (RX2, TX2, 11) = q := Option.some.inj hq
    exact k2
  | 3, hq =>
    obtain rfl : (RX3, TX3, 9) = q := Option.some.inj hq
    exact k3
  | 4, hq =>
    obtain rfl : (RX4, TX4, 3) = q := Option.some.inj hq
    exact k4
  | 5, hq =>
    obtain rfl : (RX5, TX5, 9) = q := Option.some.inj hq
    exact k5
  | 6, hq =>
    obtain rfl : (RX6, TX6, 8) = q := Option.some.inj hq
    exact k6
  | 7, hq =>
    obtain rfl : (RX7, TX7, 7) = q := Option.some.inj hq
    exact k7
  | 8, hq =>
    obtain rfl : (RX8, TX8, 2) = q := Option.some.inj hq
    exact k8
  | 9, hq =>
    obtain rfl : (RX9, TX9, 11) = q := Option.some.inj hq
    exact k9
  | 10, hq =>
    obtain rfl : (RX10, TX10, 10) = q := Option.some.inj hq
    exact k10
  | 11, hq =>
    obtain rfl : (RX11, TX11, 13) = q := Option.some.inj hq
    exact k11
  | 12, hq =>
    obtain rfl : (RX12, TX12, 82) = q := Option.some.inj hq
    exact k12
  | k + 13, hq =>
    have h9 : vwCl[k + 13]? = none := List.getElem?_eq_none (Nat.le_add_left _ _)
    rw [h9] at hq
    cases hq
theorem st_ar {b : Nat} {s : State} (ty : FieldType) (h : (Cond.arrayClass ty).before #[Value.ref b] s = true) : ∃ cA, s.vm.findClass ("[" ++ ty.toString) = some cA ∧ ArrOfT s cA ty := by
  obtain ⟨cA, kA, comp, h1, h2, h3⟩ := Cond.arrayClass_spec h
  exact ⟨cA, h1, fun n z => ⟨fun k h => (by cases h), kA, h2, comp, h3⟩⟩
theorem st_K {b : Nat} {s : State} (hT : ∀ w ∈ xTs, w.before #[Value.ref b] s = true) : ∃ (D : va_G) (ca : Nat → ClassId), va_K D vwCl [(ca 0, .int), (ca 1, .byte), (ca 2, .boolean), (ca 3, .long)] s := by
  obtain ⟨dC, dI, hKc⟩ := st_kn hT
  obtain ⟨t0, f0, g0⟩ := st_ar .int (hT _ w_ac_int)
  obtain ⟨t1, f1, g1⟩ := st_ar .byte (hT _ w_ac_byte)
  obtain ⟨t2, f2, g2⟩ := st_ar .boolean (hT _ w_ac_boolean)
  obtain ⟨t3, f3, g3⟩ := st_ar .long (hT _ w_ac_long)
  refine ⟨(dC, dI), fun n => if n = 0 then t0 else if n = 1 then t1 else if n = 2 then t2 else t3, ?_⟩
  show va_K (dC, dI) vwCl [(t0, .int), (t1, .byte), (t2, .boolean), (t3, .long)] s
  refine ⟨hKc, fun k q hk => ?_⟩
  match k, hk with
  | 0, hk =>
    obtain rfl : (t0, FieldType.int) = q := Option.some.inj hk
    exact ⟨g0, f0⟩
  | 1, hk =>
    obtain rfl : (t1, FieldType.byte) = q := Option.some.inj hk
    exact ⟨g1, f1⟩
  | 2, hk =>
    obtain rfl : (t2, FieldType.boolean) = q := Option.some.inj hk
    exact ⟨g2, f2⟩
  | 3, hk =>
    obtain rfl : (t3, FieldType.long) = q := Option.some.inj hk
    exact ⟨g3, f3⟩
  | k + 4, hk => simp at hk
theorem st_G {b L : Nat} {s : State} {xs : Nat → Int32} (hts : ∀ w ∈ lw_tbl, w.before #[Value.ref b] s = true) (hf : ∀ c ∈ flatC (Jvm.Cond.and given_1 narrow_1), c.before #[Value.ref b] s = true) (hX : va_X b L xs s s.heap) (hbl : b < s.heap.size) (hL : L ≤ 3072) : ∃ G : xG, G.1 = s.heap.size ∧ G.2.2.2 3 = b ∧ G.2.2.2 4 = L ∧ va_K G.2.1 vwCl (xty G) s ∧ xSta G s s.heap := by
  have hT : ∀ w ∈ xTs, w.before #[Value.ref b] s = true := fun w hw => hts w (List.mem_filter.mp hw).1
  obtain ⟨D, ca, hK⟩ := st_K hT
  obtain ⟨a0, z0, hT0⟩ := st_ps hts hf
  obtain ⟨k0, v0, hR1, hS1⟩ := st_sy hts hf
  obtain ⟨ad, q0, q1, q2, q3, q4, q5⟩ : ∃ ad : Nat → Nat, ad 0 = a0 ∧ ad 1 = k0 ∧ ad 2 = v0 ∧ ad 3 = b ∧ ad 4 = L ∧ ∀ j, ad (5 + j) = (xs j).toUInt32.toNat := ⟨fun n => if n = 0 then a0 else if n = 1 then k0 else if n = 2 then v0 else if n = 3 then b else if n = 4 then L else (xs (n - 5)).toUInt32.toNat, rfl, rfl, rfl, rfl, rfl, fun j => by
    show (if 5 + j = 0 then a0 else if 5 + j = 1 then k0 else if 5 + j = 2 then v0 else if 5 + j = 3 then b else if 5 + j = 4 then L else (xs (5 + j - 5)).toUInt32.toNat) = _
    rw [if_neg (by omega), if_neg (by omega), if_neg (by omega), if_neg (by omega), if_neg (by omega), show 5 + j - 5 = j by omega]⟩
  refine ⟨(s.heap.size, D, ca, ad), rfl, q3, q4, hK, ?_⟩
  have hscr : ∀ j, xi (xScr (s.heap.size, D, ca, ad) j) = .int (xs j) := fun j => by
    unfold xi xScr
    rw [Int32.ofInt_toInt]
    show Value.int (Int32.ofNat (ad (5 + j))) = _
    rw [q5 j, i32_nat]
  have hlast : va_T .int (ad 3) (ad 4) (fun j => xi (xScr (s.heap.size, D, ca, ad) j)) (fun q : Nat => s.heap.size ≤ q) s s.heap := by
    rw [q3, q4]
    obtain ⟨scr, v1, v2, v3, v4, v5⟩ := hX
    refine ⟨scr, v1, v2, v3, by omega, congrArg Int32.ofNat v4, fun j hj => ?_, Nat.not_le.mpr hbl⟩
    exact (v5 j hj).trans (congrArg some (hscr j).symm)
  refine ⟨?_, ?_, ?_, ?_, st_z1 hts hf, st_z2 hts hf, st_z3 hts hf, st_z4 hts hf, hlast⟩
  · show va_Z "ClueRoom" "PLAY_SYMBOLS" "[I" (.ref (ad 0)) (fun q : Nat => s.heap.size ≤ q) s s.heap
    rw [q0]; exact z0
  · show va_T .int (ad 0) 10 (fun j => xi (xPS j)) (fun q : Nat => s.heap.size ≤ q) s s.heap
    rw [q0]; exact hT0
  · show vk_R "ClueRoom$Reader" 82 xSym (ad 1) s
    rw [q1]; exact hR1
  · show vk_S 1 [32] [xSymB] (fun _ => ad 1) (fun _ => ad 2) (fun q : Nat => s.heap.size ≤ q) s s.heap
    rw [q1, q2]; exact hS1
end Start
