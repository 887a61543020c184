/-! String.charAt of SYMBOLS; Reader.writeName -/
section StrA
variable {G : xG} {l : Launch} {d mc ms pc bc bs : Nat} {z : Bool} {mt : xMT} {Q : Option Value → List xLay → xMem → Prop} {ll : xLL} {st : List Value} {lay : List xLay} {μ : xMem}
def xChr (s : Int) : Int := ([32, 40, 41, 49, 50, 51, 52, 53, 54, 55, 56, 61, 65, 66, 67, 68, 69, 70, 71, 72, 97, 98, 99, 101, 102, 104, 105, 107, 108, 109, 115, 116] : List Int).getD s.toNat 0
theorem xChr_f : ∀ j : Fin 32, xSymB.getD j.val 0 = Int32.ofInt (xChr (j.val : Int)) ∧ jand (xChr (j.val : Int)) 255 = xChr (j.val : Int) ∧ ((Int32.ofInt (xChr (j.val : Int))).toUInt32 % 65536).toInt32 = Int32.ofInt (xChr (j.val : Int)) ∧ narrow .char (.int (Int32.ofInt (xChr (j.val : Int)))) = .int (Int32.ofInt (xChr (j.val : Int))) ∧ 0 ≤ xChr (j.val : Int) ∧ xChr (j.val : Int) ≤ 127 := by decide +kernel
theorem xChr_i {i : Int} (h : 0 ≤ i ∧ i < 32) : xSymB.getD i.toNat 0 = Int32.ofInt (xChr i) ∧ jand (xChr i) 255 = xChr i ∧ ((Int32.ofInt (xChr i)).toUInt32 % 65536).toInt32 = Int32.ofInt (xChr i) ∧ narrow .char (.int (Int32.ofInt (xChr i))) = .int (Int32.ofInt (xChr i)) ∧ 0 ≤ xChr i ∧ xChr i ≤ 127 := by
  have := xChr_f ⟨i.toNat, by omega⟩
  simp only at this
  rw [show ((i.toNat : Nat) : Int) = i by omega] at this
  exact this
theorem xr_ldcS (hd : decode mt.2.1 pc = .ok (.ldc 82, 2)) (hc : mt.1.cls = "ClueRoom$Reader") (K : RR G l d mc ms z mt Q (pc + 2) ll (.ref (G.2.2.2 1) :: st) lay μ bc bs) : RR G l d mc ms z mt Q pc ll st lay μ bc bs := by
  intro p e s m args below meth c hC H locs cells slots ls hz hP hS h1 h2 hl
  have K1 := K p e s m args below meth c hC H locs cells slots ls hz hP hS h1 h2 hl
  obtain ⟨hx9, hb, -, -, hown, hts, -, -, hK, hN, hT, hB⟩ := hC
  rw [hc] at hown
  exact va_ldcS hx9 hb hown hT.2.2.1 hd K1
theorem xr_aloadA {n : Fin 4} {a : Nat} (hd : decode mt.2.1 pc = .ok (.aload_n n, 1)) (hx : ll[(n : Nat)]? = some (some (.ref a))) (k : RR G l d mc ms z mt Q (pc + 1) ll (.ref a :: st) lay μ bc bs) : RR G l d mc ms z mt Q pc ll st lay μ bc bs := by
  intro p e s m args below meth c hC H locs cells slots ls hz hP hS h1 h2 hl
  exact lv_aload_n hC.1 hC.2.1 hd rfl (x_lh hl hx) (k p e s m args below meth c hC H locs cells slots ls hz hP hS h1 h2 hl)
theorem xr_compact {index : Nat} (hd : decode mt.2.1 pc = .ok (.getstatic index, 3)) (hlink : Cond.fieldLink mt.1.cls index "java/lang/String" "COMPACT_STRINGS" "Z" ∈ xTs) (K : RR G l d mc ms z mt Q (pc + 3) ll (xi 1 :: st) lay μ bc bs) : RR G l d mc ms z mt Q pc ll st lay μ bc bs := by
  intro p e s m args below meth c hC H locs cells slots ls hz hP hS h1 h2 hl
  have K1 := K p e s m args below meth c hC H locs cells slots ls hz hP hS h1 h2 hl
  obtain ⟨hx9, hb, -, -, hown, hts, -, -, hK, hN, hT, hB⟩ := hC
  exact va_gets hx9 hb hT.2.2.2.2.1 hS hown (hts _ hlink) (fun _ h => h) hd K1
theorem xr_fmt {index : Nat} (hd : decode mt.2.1 pc = .ok (.getstatic index, 3)) (hlink : Cond.fieldLink mt.1.cls index "jdk/internal/util/Preconditions" "SIOOBE_FORMATTER" "Ljava/util/function/BiFunction;" ∈ xTs) (K1 : RR G l d mc ms z mt Q (pc + 3) ll (.null :: st) lay μ bc bs) (K2 : ∀ a, RR G l d mc ms z mt Q (pc + 3) ll (.ref a :: st) lay μ bc bs) : RR G l d mc ms z mt Q pc ll st lay μ bc bs := by
  intro p e s m args below meth c hC H locs cells slots ls hz hP hS h1 h2 hl
  have K1 := K1 p e s m args below meth c hC H locs cells slots ls hz hP hS h1 h2 hl
  have K2 := fun a => K2 a p e s m args below meth c hC H locs cells slots ls hz hP hS h1 h2 hl
  obtain ⟨hx9, hb, -, -, hown, hts, -, -, hK, hN, hT, hB⟩ := hC
  rcases hT.2.2.2.2.2.2.2.1 with h | ⟨a, h⟩
  · exact va_gets hx9 hb h hS hown (hts _ hlink) (fun _ h => h) hd K1
  · exact va_gets hx9 hb h hS hown (hts _ hlink) (fun _ h => h) hd (K2 a)
theorem xr_coder {index : Nat} (hd : decode mt.2.1 pc = .ok (.getfield index, 3)) (hlink : Cond.fieldLink mt.1.cls index "java/lang/String" "coder" "B" ∈ xTs) (K : RR G l d mc ms z mt Q (pc + 3) ll (xi 0 :: st) lay μ bc bs) : RR G l d mc ms z mt Q pc ll (.ref (G.2.2.2 1) :: st) lay μ bc bs := by
  intro p e s m args below meth c hC H locs cells slots ls hz hP hS h1 h2 hl
  have K1 := K p e s m args below meth c hC H locs cells slots ls hz hP hS h1 h2 hl
  obtain ⟨hx9, hb, -, -, hown, hts, -, -, hK, hN, hT, hB⟩ := hC
  exact vk_getf hx9 hb (hT.2.2.2.1.1 0 (by decide)).2.1 hS hown (hts _ hlink) (fun _ h => h) hd K1
theorem xr_strval {index : Nat} (hd : decode mt.2.1 pc = .ok (.getfield index, 3)) (hlink : Cond.fieldLink mt.1.cls index "java/lang/String" "value" "[B" ∈ xTs) (K : RR G l d mc ms z mt Q (pc + 3) ll (.ref (G.2.2.2 2) :: st) lay μ bc bs) : RR G l d mc ms z mt Q pc ll (.ref (G.2.2.2 1) :: st) lay μ bc bs := by
  intro p e s m args below meth c hC H locs cells slots ls hz hP hS h1 h2 hl
  have K1 := K p e s m args below meth c hC H locs cells slots ls hz hP hS h1 h2 hl
  obtain ⟨hx9, hb, -, -, hown, hts, -, -, hK, hN, hT, hB⟩ := hC
  exact vk_getf hx9 hb (hT.2.2.2.1.1 0 (by decide)).2.2.1 hS hown (hts _ hlink) (fun _ h => h) hd K1
theorem xr_strlen (hd : decode mt.2.1 pc = .ok (.arraylength, 1)) (K : RR G l d mc ms z mt Q (pc + 1) ll (xi 32 :: st) lay μ bc bs) : RR G l d mc ms z mt Q pc ll (.ref (G.2.2.2 2) :: st) lay μ bc bs := by
  intro p e s m args below meth c hC H locs cells slots ls hz hP hS h1 h2 hl
  have K1 := K p e s m args below meth c hC H locs cells slots ls hz hP hS h1 h2 hl
  obtain ⟨hx9, hb, -, -, hown, hts, -, -, hK, hN, hT, hB⟩ := hC
  exact va_tlen hx9 hb (hT.2.2.2.1.1 0 (by decide)).2.2.2 hS (v := Int32.ofInt 32) (by decide) hd K1
theorem xr_strbyte {i : Int} (hd : decode mt.2.1 pc = .ok (.baload, 1)) (hi : 0 ≤ i ∧ i < 32) (K : RR G l d mc ms z mt Q (pc + 1) ll (xi (xChr i) :: st) lay μ bc bs) : RR G l d mc ms z mt Q pc ll (xi i :: .ref (G.2.2.2 2) :: st) lay μ bc bs := by
  intro p e s m args below meth c hC H locs cells slots ls hz hP hS h1 h2 hl
  have K1 := K p e s m args below meth c hC H locs cells slots ls hz hP hS h1 h2 hl
  obtain ⟨a1, a2⟩ := x_in (n := 32) hi (by omega)
  obtain ⟨hx9, hb, -, -, hown, hts, -, -, hK, hN, hT, hB⟩ := hC
  refine va_tb hx9 hb (hT.2.2.2.1.1 0 (by decide)).2.2.2 hS a1 ?_ hd K1
  rw [a2]
  show Value.int (xSymB.getD i.toNat 0) = xi (xChr i)
  rw [(xChr_i hi).1]
  rfl
theorem xr_i2c {x : Int} (hd : decode mt.2.1 pc = .ok (.i2c, 1)) (hx : ((Int32.ofInt x).toUInt32 % 65536).toInt32 = Int32.ofInt x) (K : RR G l d mc ms z mt Q (pc + 1) ll (xi x :: st) lay μ bc bs) : RR G l d mc ms z mt Q pc ll (xi x :: st) lay μ bc bs := by
  intro p e s m args below meth c hC H locs cells slots ls hz hP hS h1 h2 hl
  exact lv_i2c hC.1 hC.2.1 hd hx (K p e s m args below meth c hC H locs cells slots ls hz hP hS h1 h2 hl)
/-- a method of the String -/
theorem xr_callStr {index n d' mc' ms' : Nat} {As : List Value} {mt' : xMT} {Q' : Option Value → List xLay → xMem → Prop} {st0 : List Value} (hd : decode mt.2.1 pc = .ok (.invokevirtual index, 3)) (hM : xMi mt' n) (hlink : Cond.methodLink mt.1.cls index mt'.1 ∈ xTs) (hsel : Cond.selects mt'.1.cls mt'.1 mt'.1 ∈ xTs)
    (hc : mt'.1.cls = "java/lang/String") (hn : As.length = n) (hst : st0 = As.reverse ++ .ref (G.2.2.2 1) :: st) (hw : (st.map fun v => v.category).sum ≤ 8) (hdd : d' + 1 ≤ d) (hb1 : mc' ≤ bc) (hb2 : ms' ≤ bs)
    (hc1 : CC G l d' mc' ms' z mt' (.ref (G.2.2.2 1) :: As) lay μ Q') (K : ∀ r lay' μ', Q' r lay' μ' → RR G l d mc ms z mt Q (pc + 3) ll (r.toList ++ st) lay' μ' (bc - mc') (bs - ms')) : RR G l d mc ms z mt Q pc ll st0 lay μ bc bs := by
  intro p e s m args below meth c hC H locs cells slots ls hz hP hS h1 h2 hl
  subst hst
  have hC0 := hC
  obtain ⟨hx, hb, -, hml, hown, hts, -, -, hK, hN, hT, -⟩ := hC
  obtain ⟨m1, m2, m3, m4, m5, m6⟩ := hM
  refine x_after hC0 hS h1 h2 hb1 hb2 hl (va_runV (As := As) (rest := st) (b := G.2.2.2 1) ⟨hx, hb, hml, hown, hts⟩ hc1 ⟨x_callB hts m2 m3 m4 m5 m6 hdd hlink, hts _ m1, hts _ hsel⟩ ⟨WD.blind, ?_, fun U hU hW => ⟨rfl, WD.of hC0 hz hP hS hU hW⟩⟩ rfl hn hl.1 rfl (lv_room hw) hd ⟨by show cells + mc' ≤ mc; omega, by show slots + ms' ≤ ms; omega⟩) K
  rw [hc]
  exact vk_recv (i := 0) (adK := fun _ => G.2.2.2 1) hT.2.2.2.1 (by decide) hS
end StrA
section StrB
variable {G : xG} {l : Launch} {d : Nat} {μ : xMem} {P : Int → xMem → Prop} {PV' : xMem → Prop}
theorem sf_38 : Cond.fieldLink RJ0 38 "java/lang/String" "COMPACT_STRINGS" "Z" ∈ xTs := xin4 117 (by decide +kernel) (by decide +kernel)
theorem sf_1053 : Cond.fieldLink RJ0 1053 "jdk/internal/util/Preconditions" "SIOOBE_FORMATTER" "Ljava/util/function/BiFunction;" ∈ xTs := xin4 125 (by decide +kernel) (by decide +kernel)
theorem sf_15 : Cond.fieldLink RJ0 15 "java/lang/String" "coder" "B" ∈ xTs := xin8 124 (by decide +kernel) (by decide +kernel)
theorem sf_9 : Cond.fieldLink RJ0 9 "java/lang/String" "value" "[B" ∈ xTs := xin8 125 (by decide +kernel) (by decide +kernel)
theorem dJ0_charAt_5068e_0 : decode cJ0_charAt_5068e 0 = .ok (.aload_n 0, 1) := by decide +kernel
theorem dJ0_charAt_5068e_1 : decode cJ0_charAt_5068e 1 = .ok (.invokevirtual 492, 3) := by decide +kernel
theorem dJ0_charAt_5068e_4 : decode cJ0_charAt_5068e 4 = .ok (.ifCond .eq 12, 3) := by decide +kernel
theorem dJ0_charAt_5068e_7 : decode cJ0_charAt_5068e 7 = .ok (.aload_n 0, 1) := by decide +kernel
theorem dJ0_charAt_5068e_8 : decode cJ0_charAt_5068e 8 = .ok (.getfield 9, 3) := by decide +kernel
theorem dJ0_charAt_5068e_11 : decode cJ0_charAt_5068e 11 = .ok (.iload_n 1, 1) := by decide +kernel
theorem dJ0_charAt_5068e_12 : decode cJ0_charAt_5068e 12 = .ok (.invokestatic 495, 3) := by decide +kernel
theorem dJ0_charAt_5068e_15 : decode cJ0_charAt_5068e 15 = .ok (.ireturn, 1) := by decide +kernel
theorem dJ0_charAt_5068e_16 : decode cJ0_charAt_5068e 16 = .ok (.aload_n 0, 1) := by decide +kernel
theorem dJ0_charAt_5068e_17 : decode cJ0_charAt_5068e 17 = .ok (.getfield 9, 3) := by decide +kernel
theorem dJ0_charAt_5068e_20 : decode cJ0_charAt_5068e 20 = .ok (.iload_n 1, 1) := by decide +kernel
theorem dJ0_charAt_5068e_21 : decode cJ0_charAt_5068e 21 = .ok (.invokestatic 498, 3) := by decide +kernel
theorem dJ0_charAt_5068e_24 : decode cJ0_charAt_5068e 24 = .ok (.ireturn, 1) := by decide +kernel
theorem dJ0_isLatin1_aae02_0 : decode cJ0_isLatin1_aae02 0 = .ok (.getstatic 38, 3) := by decide +kernel
theorem dJ0_isLatin1_aae02_3 : decode cJ0_isLatin1_aae02 3 = .ok (.ifCond .eq 14, 3) := by decide +kernel
theorem dJ0_isLatin1_aae02_6 : decode cJ0_isLatin1_aae02 6 = .ok (.aload_n 0, 1) := by decide +kernel
theorem dJ0_isLatin1_aae02_7 : decode cJ0_isLatin1_aae02 7 = .ok (.getfield 15, 3) := by decide +kernel
theorem dJ0_isLatin1_aae02_10 : decode cJ0_isLatin1_aae02 10 = .ok (.ifCond .ne 7, 3) := by decide +kernel
theorem dJ0_isLatin1_aae02_13 : decode cJ0_isLatin1_aae02 13 = .ok (.iconst 1, 1) := by decide +kernel
theorem dJ0_isLatin1_aae02_14 : decode cJ0_isLatin1_aae02 14 = .ok (.goto 4, 3) := by decide +kernel
theorem dJ0_isLatin1_aae02_17 : decode cJ0_isLatin1_aae02 17 = .ok (.iconst 0, 1) := by decide +kernel
theorem dJ0_isLatin1_aae02_18 : decode cJ0_isLatin1_aae02 18 = .ok (.ireturn, 1) := by decide +kernel
theorem dJ0_checkIndex_df160_0 : decode cJ0_checkIndex_df160 0 = .ok (.iload_n 0, 1) := by decide +kernel
theorem dJ0_checkIndex_df160_1 : decode cJ0_checkIndex_df160 1 = .ok (.iload_n 1, 1) := by decide +kernel
theorem dJ0_checkIndex_df160_2 : decode cJ0_checkIndex_df160 2 = .ok (.getstatic 1053, 3) := by decide +kernel
theorem dJ0_checkIndex_df160_5 : decode cJ0_checkIndex_df160 5 = .ok (.invokestatic 1059, 3) := by decide +kernel
theorem dJ0_checkIndex_df160_8 : decode cJ0_checkIndex_df160 8 = .ok (.pop, 1) := by decide +kernel
theorem dJ0_checkIndex_df160_9 : decode cJ0_checkIndex_df160 9 = .ok (.return_, 1) := by decide +kernel
theorem dJ1_charAt_3b067_0 : decode cJ1_charAt_3b067 0 = .ok (.iload_n 1, 1) := by decide +kernel
theorem dJ1_charAt_3b067_1 : decode cJ1_charAt_3b067 1 = .ok (.aload_n 0, 1) := by decide +kernel
theorem dJ1_charAt_3b067_2 : decode cJ1_charAt_3b067 2 = .ok (.arraylength, 1) := by decide +kernel
theorem dJ1_charAt_3b067_3 : decode cJ1_charAt_3b067 3 = .ok (.invokestatic 9, 3) := by decide +kernel
theorem dJ1_charAt_3b067_6 : decode cJ1_charAt_3b067 6 = .ok (.aload_n 0, 1) := by decide +kernel
theorem dJ1_charAt_3b067_7 : decode cJ1_charAt_3b067 7 = .ok (.iload_n 1, 1) := by decide +kernel
theorem dJ1_charAt_3b067_8 : decode cJ1_charAt_3b067 8 = .ok (.baload, 1) := by decide +kernel
theorem dJ1_charAt_3b067_9 : decode cJ1_charAt_3b067 9 = .ok (.sipush 255, 3) := by decide +kernel
theorem dJ1_charAt_3b067_12 : decode cJ1_charAt_3b067 12 = .ok (.iand, 1) := by decide +kernel
theorem dJ1_charAt_3b067_13 : decode cJ1_charAt_3b067 13 = .ok (.i2c, 1) := by decide +kernel
theorem dJ1_charAt_3b067_14 : decode cJ1_charAt_3b067 14 = .ok (.ireturn, 1) := by decide +kernel
theorem dJ3_checkIndex_8e157_0 : decode cJ3_checkIndex_8e157 0 = .ok (.iload_n 0, 1) := by decide +kernel
theorem dJ3_checkIndex_8e157_1 : decode cJ3_checkIndex_8e157 1 = .ok (.ifCond .lt 8, 3) := by decide +kernel
theorem dJ3_checkIndex_8e157_4 : decode cJ3_checkIndex_8e157 4 = .ok (.iload_n 0, 1) := by decide +kernel
theorem dJ3_checkIndex_8e157_5 : decode cJ3_checkIndex_8e157 5 = .ok (.iload_n 1, 1) := by decide +kernel
theorem dJ3_checkIndex_8e157_6 : decode cJ3_checkIndex_8e157 6 = .ok (.if_icmp .lt 10, 3) := by decide +kernel
theorem dJ3_checkIndex_8e157_9 : decode cJ3_checkIndex_8e157 9 = .ok (.aload_n 2, 1) := by decide +kernel
theorem dJ3_checkIndex_8e157_10 : decode cJ3_checkIndex_8e157 10 = .ok (.iload_n 0, 1) := by decide +kernel
theorem dJ3_checkIndex_8e157_11 : decode cJ3_checkIndex_8e157 11 = .ok (.iload_n 1, 1) := by decide +kernel
theorem dJ3_checkIndex_8e157_12 : decode cJ3_checkIndex_8e157 12 = .ok (.invokestatic 95, 3) := by decide +kernel
theorem dJ3_checkIndex_8e157_15 : decode cJ3_checkIndex_8e157 15 = .ok (.athrow, 1) := by decide +kernel
theorem dJ3_checkIndex_8e157_16 : decode cJ3_checkIndex_8e157 16 = .ok (.iload_n 0, 1) := by decide +kernel
theorem dJ3_checkIndex_8e157_17 : decode cJ3_checkIndex_8e157 17 = .ok (.ireturn, 1) := by decide +kernel
theorem s_J3 {i n : Int} {v : Value} (hv : v = .null ∨ ∃ a, v = .ref a) (hi : 0 ≤ i ∧ i < n) (hn : iR n) (h : P i μ) : CI G l (d + 1) mJ3_checkIndex_8e157 [xi i, xi n, v] μ P := by
  have go : RR G l (d + 1) 0 0 false mJ3_checkIndex_8e157 (qI P) 0 [some (xi i), some (xi n), none] [] LAY μ 0 0 := by
    refine xr_iload_n dJ3_checkIndex_8e157_0 rfl ?_
    refine xr_if_lt (tgt := 9) dJ3_checkIndex_8e157_1 (by decide) (by omega) (fun c => by omega) (fun _ => ?_)
    refine xr_iload_n dJ3_checkIndex_8e157_4 rfl ?_
    refine xr_iload_n dJ3_checkIndex_8e157_5 rfl ?_
    refine xr_icmp_lt (tgt := 16) dJ3_checkIndex_8e157_6 (by decide) (by omega) hn (fun _ => ?_) (fun c => by omega)
    refine xr_iload_n dJ3_checkIndex_8e157_16 rfl ?_
    exact xr_iret dJ3_checkIndex_8e157_17 rfl ⟨rfl, _, rfl, by omega, h⟩
  rcases hv with rfl | ⟨a, rfl⟩
  · refine CC.ofRR (ll := [some (xi i), some (xi n), some .null]) (by decide +kernel) (Nat.le_of_ble_eq_true rfl) rfl (fun h => by cases h) ?_
    exact xr_wk (ll' := [some (xi i), some (xi n), none]) ⟨rfl, rfl, trivial⟩ go
  · refine CC.ofRR (ll := [some (xi i), some (xi n), some (.ref a)]) (by decide +kernel) (Nat.le_of_ble_eq_true rfl) rfl (fun h => by cases h) ?_
    exact xr_wk (ll' := [some (xi i), some (xi n), none]) ⟨rfl, rfl, trivial⟩ go
theorem s_J0check {i n : Int} (hi : 0 ≤ i ∧ i < n) (hn : iR n) (h : PV' μ) : CV G l (d + 2) mJ0_checkIndex_df160 [xi i, xi n] μ PV' := by
  refine CC.ofRR (ll := [some (xi i), some (xi n)]) (by decide +kernel) (Nat.le_of_ble_eq_true rfl) rfl (fun h => by cases h) ?_
  refine xr_iload_n dJ0_checkIndex_df160_0 rfl ?_
  refine xr_iload_n dJ0_checkIndex_df160_1 rfl ?_
  refine xr_fmt dJ0_checkIndex_df160_2 sf_1053 ?_ (fun a => ?_)
  · refine xr_csI (As := [xi i, xi n, .null]) (P := fun _ m => m = μ) dJ0_checkIndex_df160_5 ms_J3_checkIndex_8e157 ml_J0_1059 rfl rfl (Nat.le_of_ble_eq_true rfl) (s_J3 (Or.inl rfl) hi hn rfl) (fun r m hr e => ?_)
    subst e
    refine xr_pop dJ0_checkIndex_df160_8 rfl ?_
    exact xr_ret dJ0_checkIndex_df160_9 rfl ⟨rfl, rfl, h⟩
  · refine xr_csI (As := [xi i, xi n, .ref a]) (P := fun _ m => m = μ) dJ0_checkIndex_df160_5 ms_J3_checkIndex_8e157 ml_J0_1059 rfl rfl (Nat.le_of_ble_eq_true rfl) (s_J3 (Or.inr ⟨a, rfl⟩) hi hn rfl) (fun r m hr e => ?_)
    subst e
    refine xr_pop dJ0_checkIndex_df160_8 rfl ?_
    exact xr_ret dJ0_checkIndex_df160_9 rfl ⟨rfl, rfl, h⟩
theorem s_J1charAt {i : Int} (hi : 0 ≤ i ∧ i < 32) (h : P (xChr i) μ) : CI G l (d + 3) mJ1_charAt_3b067 [.ref (G.2.2.2 2), xi i] μ P := by
  obtain ⟨e1, e2, e3, e4, e5, e6⟩ := xChr_i hi
  refine CC.ofRR (ll := [some (.ref (G.2.2.2 2)), some (xi i)]) (by decide +kernel) (Nat.le_of_ble_eq_true rfl) rfl (fun h => by cases h) ?_
  refine xr_iload_n dJ1_charAt_3b067_0 rfl ?_
  refine xr_aloadA dJ1_charAt_3b067_1 rfl ?_
  refine xr_strlen dJ1_charAt_3b067_2 ?_
  refine xr_csV (As := [xi i, xi 32]) (P := fun m => m = μ) dJ1_charAt_3b067_3 ms_J0_checkIndex_df160 ml_J1_9 rfl rfl (Nat.le_of_ble_eq_true rfl) (s_J0check hi (by decide) rfl) (fun m e => ?_)
  subst e
  refine xr_aloadA dJ1_charAt_3b067_6 rfl ?_
  refine xr_iload_n dJ1_charAt_3b067_7 rfl ?_
  refine xr_strbyte dJ1_charAt_3b067_8 hi ?_
  refine xr_sipush dJ1_charAt_3b067_9 (by decide) ?_
  refine xr_iand dJ1_charAt_3b067_12 ?_
  rw [e2]
  refine xr_i2c dJ1_charAt_3b067_13 e3 ?_
  exact xr_zret dJ1_charAt_3b067_14 rfl e4 ⟨rfl, _, rfl, by omega, h⟩
theorem s_J0latin (h : P 1 μ) : CI G l (d + 1) mJ0_isLatin1_aae02 [.ref (G.2.2.2 1)] μ P := by
  refine CC.ofRR (ll := [some (.ref (G.2.2.2 1))]) (by decide +kernel) (Nat.le_of_ble_eq_true rfl) rfl (fun h => by cases h) ?_
  refine xr_compact dJ0_isLatin1_aae02_0 sf_38 ?_
  refine xr_if_eq (tgt := 17) dJ0_isLatin1_aae02_3 (by decide) (by decide) (fun c => absurd c (by decide)) (fun _ => ?_)
  refine xr_aloadA dJ0_isLatin1_aae02_6 rfl ?_
  refine xr_coder dJ0_isLatin1_aae02_7 sf_15 ?_
  refine xr_if_ne (tgt := 17) dJ0_isLatin1_aae02_10 (by decide) (by decide) (fun c => absurd rfl c) (fun _ => ?_)
  refine xr_iconst dJ0_isLatin1_aae02_13 ?_
  refine xr_goto (tgt := 18) dJ0_isLatin1_aae02_14 (by decide) ?_
  exact xr_zret dJ0_isLatin1_aae02_18 rfl (by decide) ⟨rfl, _, rfl, by decide, h⟩
theorem s_J0charAt {i : Int} (hi : 0 ≤ i ∧ i < 32) (h : P (xChr i) μ) : CI G l (d + 4) mJ0_charAt_5068e [.ref (G.2.2.2 1), xi i] μ P := by
  obtain ⟨e1, e2, e3, e4, e5, e6⟩ := xChr_i hi
  refine CC.ofRR (ll := [some (.ref (G.2.2.2 1)), some (xi i)]) (by decide +kernel) (Nat.le_of_ble_eq_true rfl) rfl (fun h => by cases h) ?_
  refine xr_aloadA dJ0_charAt_5068e_0 rfl ?_
  refine xr_callStr (As := []) (d' := d + 3) (mc' := 0) (ms' := 0) dJ0_charAt_5068e_1 mi_J0_isLatin1_aae02 ml_J0_492 se_J0_isLatin1_aae02 rfl rfl rfl (Nat.le_of_ble_eq_true rfl) (by omega) (Nat.le_refl 0) (Nat.le_refl 0) (s_J0latin (P := fun r m => r = 1 ∧ m = μ) ⟨rfl, rfl⟩) ?_
  rintro r lay' μ' ⟨rfl, x, rfl, _, rfl, rfl⟩
  refine xr_if_eq (tgt := 16) dJ0_charAt_5068e_4 (by decide) (by decide) (fun c => absurd c (by decide)) (fun _ => ?_)
  refine xr_aloadA dJ0_charAt_5068e_7 rfl ?_
  refine xr_strval dJ0_charAt_5068e_8 sf_9 ?_
  refine xr_iload_n dJ0_charAt_5068e_11 rfl ?_
  refine xr_csI (As := [.ref (G.2.2.2 2), xi i]) (P := fun r m => r = xChr i ∧ m = μ') dJ0_charAt_5068e_12 ms_J1_charAt_3b067 ml_J0_495 rfl rfl (Nat.le_of_ble_eq_true rfl) (s_J1charAt hi ⟨rfl, rfl⟩) (fun r m hr e => ?_)
  obtain ⟨rfl, rfl⟩ := e
  exact xr_zret dJ0_charAt_5068e_15 rfl e4 ⟨rfl, _, rfl, by omega, h⟩
def K_X8_writeName_2 (G : xG) (l : Launch) (d : Nat) (P : Int → xMem → Prop) (v2 : Int) (μ : xMem) : Prop := RR G l d 0 0 false mX8_writeName (qI P) 2 [some (xr G 26), some (xr G 2), some (xi v2)] [] LAY μ 0 0
theorem E_X8_writeName (h : K_X8_writeName_2 G l d P 0 μ) : CI G l d mX8_writeName [xr G 26, xr G 2] μ P := by
  refine CC.ofRR (ll := [some (xr G 26), some (xr G 2), none]) (by decide +kernel) (Nat.le_of_ble_eq_true rfl) rfl (fun h => by cases h) ?_
  refine xr_iconst dX8_writeName_0 ?_
  refine xr_istore_n' (ll' := [some (xr G 26), some (xr G 2), some (xi 0)]) dX8_writeName_1 (by decide) rfl rfl ?_
  exact h
theorem B_X8_writeName_2 {v2 : Int} (h : iR v2 ∧ (36 ≤ v2 → P v2 μ) ∧ (v2 < 36 → CI G l (d + 4) mX5_symbolAt [xr G 27, xi 7920, xi v2] μ (fun r4 m5 => (r4 = 0 → P v2 m5) ∧ (r4 ≠ 0 → CI G l (d + 4) mX5_symbolAt [xr G 27, xi 7920, xi v2] m5 (fun r6 m7 => (0 ≤ r6 ∧ r6 < 32) ∧ (0 ≤ v2 ∧ v2 < 36) ∧ K_X8_writeName_2 G l (d + 5) P (v2 + 1) (st2 m7 2 v2 (xChr r6))))))) : K_X8_writeName_2 G l (d + 5) P v2 μ := by
  unfold K_X8_writeName_2
  refine xr_iload_n dX8_writeName_2 rfl ?_
  refine xr_bipush dX8_writeName_3 (by decide) ?_
  obtain ⟨q1, hT2, hF3⟩ := h
  refine xr_icmp_ge (tgt := 53) dX8_writeName_5 (by decide) q1 (by decide) (fun c => ?_) (fun c => ?_)
  · refine xr_iload_n dX8_writeName_53 rfl ?_
    exact xr_iret dX8_writeName_54 rfl ⟨rfl, _, rfl, q1, hT2 c⟩
  · have h := hF3 (Int.not_le.mp c)
    refine xr_iload_n dX8_writeName_8 rfl ?_
    refine xr_aload_n dX8_writeName_9 rfl ?_
    refine xr_alen (N := 36) dX8_writeName_10 L_2 (by decide) rfl ?_
    refine xr_icmp_ge (tgt := 53) dX8_writeName_11 (by decide) q1 (by decide) (fun c' => absurd c' c) (fun _ => ?_)
    refine xr_aload_n dX8_writeName_14 rfl ?_
    refine xr_getR dX8_writeName_15 fl_X8_12 L_26 rfl ?_
    refine xr_sipush dX8_writeName_18 (by decide) ?_
    refine xr_iload_n dX8_writeName_21 rfl ?_
    refine xr_cvI (As := [xi 7920, xi v2]) dX8_writeName_22 mi_X5_symbolAt ml_X8_78 se_X5_symbolAt L_27 rfl rfl rfl (Nat.le_of_ble_eq_true rfl) h (fun r4 m5 hr4 h => ?_)
    obtain ⟨hT6, hF7⟩ := h
    refine xr_if_eq (tgt := 53) dX8_writeName_25 (by decide) hr4 (fun c => ?_) (fun c => ?_)
    · refine xr_iload_n dX8_writeName_53 rfl ?_
      exact xr_iret dX8_writeName_54 rfl ⟨rfl, _, rfl, q1, hT6 c⟩
    · have h := hF7 c
      refine xr_aload_n dX8_writeName_28 rfl ?_
      refine xr_iload_n dX8_writeName_29 rfl ?_
      refine xr_ldcS dX8_writeName_30 rfl ?_
      refine xr_aload_n dX8_writeName_32 rfl ?_
      refine xr_getR dX8_writeName_33 fl_X8_12 L_26 rfl ?_
      refine xr_sipush dX8_writeName_36 (by decide) ?_
      refine xr_iload_n dX8_writeName_39 rfl ?_
      refine xr_cvI (As := [xi 7920, xi v2]) dX8_writeName_40 mi_X5_symbolAt ml_X8_78 se_X5_symbolAt L_27 rfl rfl rfl (Nat.le_of_ble_eq_true rfl) h (fun r6 m7 hr6 h => ?_)
      obtain ⟨g1, g2, h⟩ := h
      refine xr_callStr (As := [xi r6]) (d' := d + 4) (mc' := 0) (ms' := 0) dX8_writeName_43 mi_J0_charAt_5068e ml_X8_84 se_J0_charAt_5068e rfl rfl rfl (Nat.le_of_ble_eq_true rfl) (by omega) (Nat.le_refl 0) (Nat.le_refl 0) (s_J0charAt (P := fun r m => r = xChr r6 ∧ m = m7) g1 ⟨rfl, rfl⟩) ?_
      rintro r lay' μ' ⟨rfl, x, rfl, _, rfl, rfl⟩
      refine xr_iastore (N := 36) dX8_writeName_46 L_2 rfl (by decide) g2 ?_
      refine xr_iinc' (ll' := [some (xr G 26), some (xr G 2), some (xi (v2 + 1))]) dX8_writeName_47 rfl (by decide) rfl rfl ?_
      refine xr_goto (tgt := 2) dX8_writeName_50 (by decide) ?_
      exact h
end StrB
