/-! blocks of the class's code, printed by program -/
section Blk34_bX12b
theorem dX12_clear_0 : decode cX12_clear 0 = .ok (.aload_n 0, 1) := by decide +kernel
theorem dX12_clear_1 : decode cX12_clear 1 = .ok (.iconst 0, 1) := by decide +kernel
theorem dX12_clear_2 : decode cX12_clear 2 = .ok (.putfield 237, 3) := by decide +kernel
theorem dX12_clear_5 : decode cX12_clear 5 = .ok (.aload_n 0, 1) := by decide +kernel
theorem dX12_clear_6 : decode cX12_clear 6 = .ok (.ldc 240, 2) := by decide +kernel
theorem dX12_clear_8 : decode cX12_clear 8 = .ok (.putfield 241, 3) := by decide +kernel
theorem dX12_clear_11 : decode cX12_clear 11 = .ok (.aload_n 0, 1) := by decide +kernel
theorem dX12_clear_12 : decode cX12_clear 12 = .ok (.iconst 0, 1) := by decide +kernel
theorem dX12_clear_13 : decode cX12_clear 13 = .ok (.putfield 244, 3) := by decide +kernel
theorem dX12_clear_16 : decode cX12_clear 16 = .ok (.return_, 1) := by decide +kernel
set_option maxRecDepth 20000 in
theorem E_X12_clear {G : xG} {l : Launch} {d : Nat} {P : xMem → Prop} {μ : xMem} (h : P (st2 (st2 (st2 μ 74 46 0) 74 47 1000000) 74 48 0)) : CV G l (d + 1) mX12_clear [xr G 74] μ P := by
  refine CC.ofRR (ll := [some (xr G 74)]) (by decide +kernel) (Nat.le_of_ble_eq_true rfl) rfl (fun h => by cases h) ?_
  refine xr_aload_n dX12_clear_0 rfl ?_
  refine xr_iconst dX12_clear_1 ?_
  refine xr_putI dX12_clear_2 fp_X12_237 L_74 rfl rfl ⟨rfl, rfl⟩ ?_
  refine xr_aload_n dX12_clear_5 rfl ?_
  refine xr_ldc dX12_clear_6 wc_X12_240 ?_
  refine xr_putI dX12_clear_8 fp_X12_241 L_74 rfl rfl ⟨rfl, rfl⟩ ?_
  refine xr_aload_n dX12_clear_11 rfl ?_
  refine xr_iconst dX12_clear_12 ?_
  refine xr_putI dX12_clear_13 fp_X12_244 L_74 rfl rfl ⟨rfl, rfl⟩ ?_
  exact xr_ret dX12_clear_16 rfl ⟨rfl, rfl, h⟩
theorem dX12_open_0 : decode cX12_open 0 = .ok (.aload_n 0, 1) := by decide +kernel
theorem dX12_open_1 : decode cX12_open 1 = .ok (.iconst 0, 1) := by decide +kernel
theorem dX12_open_2 : decode cX12_open 2 = .ok (.putfield 247, 3) := by decide +kernel
theorem dX12_open_5 : decode cX12_open 5 = .ok (.return_, 1) := by decide +kernel
set_option maxRecDepth 20000 in
theorem E_X12_open {G : xG} {l : Launch} {d : Nat} {P : xMem → Prop} {μ : xMem} (h : P (st2 μ 74 49 0)) : CV G l (d + 1) mX12_open [xr G 74] μ P := by
  refine CC.ofRR (ll := [some (xr G 74)]) (by decide +kernel) (Nat.le_of_ble_eq_true rfl) rfl (fun h => by cases h) ?_
  refine xr_aload_n dX12_open_0 rfl ?_
  refine xr_iconst dX12_open_1 ?_
  refine xr_putI dX12_open_2 fp_X12_247 L_74 rfl rfl ⟨rfl, rfl⟩ ?_
  exact xr_ret dX12_open_5 rfl ⟨rfl, rfl, h⟩
theorem dX12_say_0 : decode cX12_say 0 = .ok (.aload_n 0, 1) := by decide +kernel
theorem dX12_say_1 : decode cX12_say 1 = .ok (.getfield 113, 3) := by decide +kernel
theorem dX12_say_4 : decode cX12_say 4 = .ok (.aload_n 0, 1) := by decide +kernel
theorem dX12_say_5 : decode cX12_say 5 = .ok (.getfield 247, 3) := by decide +kernel
theorem dX12_say_8 : decode cX12_say 8 = .ok (.iload_n 1, 1) := by decide +kernel
theorem dX12_say_9 : decode cX12_say 9 = .ok (.i2b, 1) := by decide +kernel
theorem dX12_say_10 : decode cX12_say 10 = .ok (.bastore, 1) := by decide +kernel
theorem dX12_say_11 : decode cX12_say 11 = .ok (.aload_n 0, 1) := by decide +kernel
theorem dX12_say_12 : decode cX12_say 12 = .ok (.dup, 1) := by decide +kernel
theorem dX12_say_13 : decode cX12_say 13 = .ok (.getfield 247, 3) := by decide +kernel
theorem dX12_say_16 : decode cX12_say 16 = .ok (.iconst 1, 1) := by decide +kernel
theorem dX12_say_17 : decode cX12_say 17 = .ok (.iadd, 1) := by decide +kernel
theorem dX12_say_18 : decode cX12_say 18 = .ok (.putfield 247, 3) := by decide +kernel
theorem dX12_say_21 : decode cX12_say 21 = .ok (.return_, 1) := by decide +kernel
set_option maxRecDepth 20000 in
theorem E_X12_say {G : xG} {l : Launch} {d : Nat} {P : xMem → Prop} {v1 : Int} {μ : xMem} (h : ((0 ≤ μ 74 49 ∧ μ 74 49 < 80) ∧ P (st2 (st2 μ 106 (μ 74 49) (j8 (j8 v1))) 74 49 ((μ 74 49) + 1)))) : CV G l (d + 1) mX12_say [xr G 74, xi v1] μ P := by
  refine CC.ofRR (ll := [some (xr G 74), some (xi v1)]) (by decide +kernel) (Nat.le_of_ble_eq_true rfl) rfl (fun h => by cases h) ?_
  refine xr_aload_n dX12_say_0 rfl ?_
  refine xr_getR dX12_say_1 fl_X12_113 L_74 rfl ?_
  refine xr_aload_n dX12_say_4 rfl ?_
  refine xr_getI' (v := μ 74 49) dX12_say_5 fl_X12_247 L_74 rfl rfl rfl ?_
  refine xr_iload_n dX12_say_8 rfl ?_
  refine xr_i2b dX12_say_9 ?_
  obtain ⟨q1, h⟩ := h
  refine xr_bastore dX12_say_10 L_106 rfl (by decide) q1 ?_
  refine xr_aload_n dX12_say_11 rfl ?_
  refine xr_dup dX12_say_12 rfl ?_
  refine xr_getI' (v := μ 74 49) dX12_say_13 fl_X12_247 L_74 rfl rfl (by simp [st2, cpy]) ?_
  refine xr_iconst dX12_say_16 ?_
  refine xr_iadd dX12_say_17 ?_
  refine xr_putI dX12_say_18 fp_X12_247 L_74 rfl rfl ⟨rfl, rfl⟩ ?_
  exact xr_ret dX12_say_21 rfl ⟨rfl, rfl, h⟩
theorem dX12_sayRow_0 : decode cX12_sayRow 0 = .ok (.iconst 0, 1) := by decide +kernel
theorem dX12_sayRow_1 : decode cX12_sayRow 1 = .ok (.istore_n 2, 1) := by decide +kernel
theorem dX12_sayRow_2 : decode cX12_sayRow 2 = .ok (.iload_n 2, 1) := by decide +kernel
theorem dX12_sayRow_3 : decode cX12_sayRow 3 = .ok (.aload_n 0, 1) := by decide +kernel
theorem dX12_sayRow_4 : decode cX12_sayRow 4 = .ok (.getfield 85, 3) := by decide +kernel
theorem dX12_sayRow_7 : decode cX12_sayRow 7 = .ok (.iload_n 1, 1) := by decide +kernel
theorem dX12_sayRow_8 : decode cX12_sayRow 8 = .ok (.iaload, 1) := by decide +kernel
theorem dX12_sayRow_9 : decode cX12_sayRow 9 = .ok (.if_icmp .ge 24, 3) := by decide +kernel
theorem dX12_sayRow_12 : decode cX12_sayRow 12 = .ok (.aload_n 0, 1) := by decide +kernel
theorem dX12_sayRow_13 : decode cX12_sayRow 13 = .ok (.aload_n 0, 1) := by decide +kernel
theorem dX12_sayRow_14 : decode cX12_sayRow 14 = .ok (.getfield 92, 3) := by decide +kernel
theorem dX12_sayRow_17 : decode cX12_sayRow 17 = .ok (.bipush 40, 2) := by decide +kernel
theorem dX12_sayRow_19 : decode cX12_sayRow 19 = .ok (.iload_n 1, 1) := by decide +kernel
theorem dX12_sayRow_20 : decode cX12_sayRow 20 = .ok (.imul, 1) := by decide +kernel
theorem dX12_sayRow_21 : decode cX12_sayRow 21 = .ok (.iload_n 2, 1) := by decide +kernel
theorem dX12_sayRow_22 : decode cX12_sayRow 22 = .ok (.iadd, 1) := by decide +kernel
theorem dX12_sayRow_23 : decode cX12_sayRow 23 = .ok (.baload, 1) := by decide +kernel
theorem dX12_sayRow_24 : decode cX12_sayRow 24 = .ok (.invokevirtual 250, 3) := by decide +kernel
theorem dX12_sayRow_27 : decode cX12_sayRow 27 = .ok (.iinc 2 1, 3) := by decide +kernel
theorem dX12_sayRow_30 : decode cX12_sayRow 30 = .ok (.goto (-28), 3) := by decide +kernel
theorem dX12_sayRow_33 : decode cX12_sayRow 33 = .ok (.return_, 1) := by decide +kernel
def K_X12_sayRow_2 (G : xG) (l : Launch) (d : Nat) (P : xMem → Prop) (v1 v2 : Int) (μ : xMem) : Prop := RR G l d 0 0 false mX12_sayRow (qV P) 2 [some (xr G 74), some (xi v1), some (xi v2)] [] LAY μ 0 0
set_option maxRecDepth 20000 in
theorem E_X12_sayRow {G : xG} {l : Launch} {d : Nat} {P : xMem → Prop} {v1 : Int} {μ : xMem} (h : K_X12_sayRow_2 G l (d + 1) P v1 0 μ) : CV G l (d + 1) mX12_sayRow [xr G 74, xi v1] μ P := by
  refine CC.ofRR (ll := [some (xr G 74), some (xi v1), none]) (by decide +kernel) (Nat.le_of_ble_eq_true rfl) rfl (fun h => by cases h) ?_
  refine xr_iconst dX12_sayRow_0 ?_
  refine xr_istore_n' (ll' := [some (xr G 74), some (xi v1), some (xi 0)]) dX12_sayRow_1 (by decide) rfl rfl ?_
  exact h
set_option maxRecDepth 20000 in
theorem B_X12_sayRow_2 {G : xG} {l : Launch} {d : Nat} {P : xMem → Prop} {v1 v2 : Int} {μ : xMem} (h : ((0 ≤ v1 ∧ v1 < 3960) ∧ (iR v2 ∧ iR (μ 97 v1) ∧ ((μ 97 v1) ≤ v2 → P μ) ∧ (v2 < (μ 97 v1) → ((0 ≤ (40 * v1) + v2 ∧ (40 * v1) + v2 < 158400) ∧ CV G l d mX12_say [xr G 74, xi (μ 99 ((40 * v1) + v2))] μ (fun m8 => K_X12_sayRow_2 G l (d + 1) P v1 (v2 + 1) m8)))))) : K_X12_sayRow_2 G l (d + 1) P v1 v2 μ := by
  unfold K_X12_sayRow_2
  refine xr_iload_n dX12_sayRow_2 rfl ?_
  refine xr_aload_n dX12_sayRow_3 rfl ?_
  refine xr_getR dX12_sayRow_4 fl_X12_85 L_74 rfl ?_
  refine xr_iload_n dX12_sayRow_7 rfl ?_
  obtain ⟨q1, h⟩ := h
  refine xr_iaload' (v := μ 97 v1) dX12_sayRow_8 L_97 rfl (by decide) q1 rfl ?_
  obtain ⟨q2, q3, hT4, hF5⟩ := h
  refine xr_icmp_ge (tgt := 33) dX12_sayRow_9 (by decide) q2 q3 (fun c => ?_) (fun c => ?_)
  · have h := hT4 c
    exact xr_ret dX12_sayRow_33 rfl ⟨rfl, rfl, h⟩
  · have h := hF5 (Int.not_le.mp c)
    refine xr_aload_n dX12_sayRow_12 rfl ?_
    refine xr_aload_n dX12_sayRow_13 rfl ?_
    refine xr_getR dX12_sayRow_14 fl_X12_92 L_74 rfl ?_
    refine xr_bipush dX12_sayRow_17 (by decide) ?_
    refine xr_iload_n dX12_sayRow_19 rfl ?_
    refine xr_imul dX12_sayRow_20 ?_
    refine xr_iload_n dX12_sayRow_21 rfl ?_
    refine xr_iadd dX12_sayRow_22 ?_
    obtain ⟨q6, h⟩ := h
    refine xr_baload' (v := μ 99 ((40 * v1) + v2)) dX12_sayRow_23 L_99 rfl (by decide) q6 rfl ?_
    refine xr_cvV (As := [xi (μ 99 ((40 * v1) + v2))]) dX12_sayRow_24 mi_X12_say ml_X12_250 se_X12_say L_74 rfl rfl rfl (Nat.le_of_ble_eq_true rfl) h (fun m8 h => ?_)
    refine xr_iinc' (ll' := [some (xr G 74), some (xi v1), some (xi (v2 + 1))]) dX12_sayRow_27 rfl (by decide) rfl rfl ?_
    refine xr_goto (tgt := 2) dX12_sayRow_30 (by decide) ?_
    exact h
theorem dX12_sayPiece_0 : decode cX12_sayPiece 0 = .ok (.iconst 0, 1) := by decide +kernel
theorem dX12_sayPiece_1 : decode cX12_sayPiece 1 = .ok (.istore_n 2, 1) := by decide +kernel
theorem dX12_sayPiece_2 : decode cX12_sayPiece 2 = .ok (.iload_n 2, 1) := by decide +kernel
theorem dX12_sayPiece_3 : decode cX12_sayPiece 3 = .ok (.aload_n 0, 1) := by decide +kernel
theorem dX12_sayPiece_4 : decode cX12_sayPiece 4 = .ok (.getfield 76, 3) := by decide +kernel
theorem dX12_sayPiece_7 : decode cX12_sayPiece 7 = .ok (.iload_n 1, 1) := by decide +kernel
theorem dX12_sayPiece_8 : decode cX12_sayPiece 8 = .ok (.iaload, 1) := by decide +kernel
theorem dX12_sayPiece_9 : decode cX12_sayPiece 9 = .ok (.if_icmp .ge 24, 3) := by decide +kernel
theorem dX12_sayPiece_12 : decode cX12_sayPiece 12 = .ok (.aload_n 0, 1) := by decide +kernel
theorem dX12_sayPiece_13 : decode cX12_sayPiece 13 = .ok (.aload_n 0, 1) := by decide +kernel
theorem dX12_sayPiece_14 : decode cX12_sayPiece 14 = .ok (.getfield 89, 3) := by decide +kernel
theorem dX12_sayPiece_17 : decode cX12_sayPiece 17 = .ok (.bipush 40, 2) := by decide +kernel
theorem dX12_sayPiece_19 : decode cX12_sayPiece 19 = .ok (.iload_n 1, 1) := by decide +kernel
theorem dX12_sayPiece_20 : decode cX12_sayPiece 20 = .ok (.imul, 1) := by decide +kernel
theorem dX12_sayPiece_21 : decode cX12_sayPiece 21 = .ok (.iload_n 2, 1) := by decide +kernel
theorem dX12_sayPiece_22 : decode cX12_sayPiece 22 = .ok (.iadd, 1) := by decide +kernel
theorem dX12_sayPiece_23 : decode cX12_sayPiece 23 = .ok (.baload, 1) := by decide +kernel
theorem dX12_sayPiece_24 : decode cX12_sayPiece 24 = .ok (.invokevirtual 250, 3) := by decide +kernel
theorem dX12_sayPiece_27 : decode cX12_sayPiece 27 = .ok (.iinc 2 1, 3) := by decide +kernel
theorem dX12_sayPiece_30 : decode cX12_sayPiece 30 = .ok (.goto (-28), 3) := by decide +kernel
theorem dX12_sayPiece_33 : decode cX12_sayPiece 33 = .ok (.return_, 1) := by decide +kernel
def K_X12_sayPiece_2 (G : xG) (l : Launch) (d : Nat) (P : xMem → Prop) (v1 v2 : Int) (μ : xMem) : Prop := RR G l d 0 0 false mX12_sayPiece (qV P) 2 [some (xr G 74), some (xi v1), some (xi v2)] [] LAY μ 0 0
set_option maxRecDepth 20000 in
theorem E_X12_sayPiece {G : xG} {l : Launch} {d : Nat} {P : xMem → Prop} {v1 : Int} {μ : xMem} (h : K_X12_sayPiece_2 G l (d + 1) P v1 0 μ) : CV G l (d + 1) mX12_sayPiece [xr G 74, xi v1] μ P := by
  refine CC.ofRR (ll := [some (xr G 74), some (xi v1), none]) (by decide +kernel) (Nat.le_of_ble_eq_true rfl) rfl (fun h => by cases h) ?_
  refine xr_iconst dX12_sayPiece_0 ?_
  refine xr_istore_n' (ll' := [some (xr G 74), some (xi v1), some (xi 0)]) dX12_sayPiece_1 (by decide) rfl rfl ?_
  exact h
set_option maxRecDepth 20000 in
theorem B_X12_sayPiece_2 {G : xG} {l : Launch} {d : Nat} {P : xMem → Prop} {v1 v2 : Int} {μ : xMem} (h : ((0 ≤ v1 ∧ v1 < 3960) ∧ (iR v2 ∧ iR (μ 94 v1) ∧ ((μ 94 v1) ≤ v2 → P μ) ∧ (v2 < (μ 94 v1) → ((0 ≤ (40 * v1) + v2 ∧ (40 * v1) + v2 < 158400) ∧ CV G l d mX12_say [xr G 74, xi (μ 98 ((40 * v1) + v2))] μ (fun m8 => K_X12_sayPiece_2 G l (d + 1) P v1 (v2 + 1) m8)))))) : K_X12_sayPiece_2 G l (d + 1) P v1 v2 μ := by
  unfold K_X12_sayPiece_2
  refine xr_iload_n dX12_sayPiece_2 rfl ?_
  refine xr_aload_n dX12_sayPiece_3 rfl ?_
  refine xr_getR dX12_sayPiece_4 fl_X12_76 L_74 rfl ?_
  refine xr_iload_n dX12_sayPiece_7 rfl ?_
  obtain ⟨q1, h⟩ := h
  refine xr_iaload' (v := μ 94 v1) dX12_sayPiece_8 L_94 rfl (by decide) q1 rfl ?_
  obtain ⟨q2, q3, hT4, hF5⟩ := h
  refine xr_icmp_ge (tgt := 33) dX12_sayPiece_9 (by decide) q2 q3 (fun c => ?_) (fun c => ?_)
  · have h := hT4 c
    exact xr_ret dX12_sayPiece_33 rfl ⟨rfl, rfl, h⟩
  · have h := hF5 (Int.not_le.mp c)
    refine xr_aload_n dX12_sayPiece_12 rfl ?_
    refine xr_aload_n dX12_sayPiece_13 rfl ?_
    refine xr_getR dX12_sayPiece_14 fl_X12_89 L_74 rfl ?_
    refine xr_bipush dX12_sayPiece_17 (by decide) ?_
    refine xr_iload_n dX12_sayPiece_19 rfl ?_
    refine xr_imul dX12_sayPiece_20 ?_
    refine xr_iload_n dX12_sayPiece_21 rfl ?_
    refine xr_iadd dX12_sayPiece_22 ?_
    obtain ⟨q6, h⟩ := h
    refine xr_baload' (v := μ 98 ((40 * v1) + v2)) dX12_sayPiece_23 L_98 rfl (by decide) q6 rfl ?_
    refine xr_cvV (As := [xi (μ 98 ((40 * v1) + v2))]) dX12_sayPiece_24 mi_X12_say ml_X12_250 se_X12_say L_74 rfl rfl rfl (Nat.le_of_ble_eq_true rfl) h (fun m8 h => ?_)
    refine xr_iinc' (ll' := [some (xr G 74), some (xi v1), some (xi (v2 + 1))]) dX12_sayPiece_27 rfl (by decide) rfl rfl ?_
    refine xr_goto (tgt := 2) dX12_sayPiece_30 (by decide) ?_
    exact h
theorem dX12_offer_0 : decode cX12_offer 0 = .ok (.iload_n 1, 1) := by decide +kernel
theorem dX12_offer_1 : decode cX12_offer 1 = .ok (.ifCond .ne 4, 3) := by decide +kernel
theorem dX12_offer_4 : decode cX12_offer 4 = .ok (.return_, 1) := by decide +kernel
theorem dX12_offer_5 : decode cX12_offer 5 = .ok (.aload_n 0, 1) := by decide +kernel
theorem dX12_offer_6 : decode cX12_offer 6 = .ok (.aload_n 0, 1) := by decide +kernel
theorem dX12_offer_7 : decode cX12_offer 7 = .ok (.getfield 237, 3) := by decide +kernel
theorem dX12_offer_10 : decode cX12_offer 10 = .ok (.iload_n 1, 1) := by decide +kernel
theorem dX12_offer_11 : decode cX12_offer 11 = .ok (.iadd, 1) := by decide +kernel
theorem dX12_offer_12 : decode cX12_offer 12 = .ok (.sipush 1000, 3) := by decide +kernel
theorem dX12_offer_15 : decode cX12_offer 15 = .ok (.if_icmp .le 9, 3) := by decide +kernel
theorem dX12_offer_18 : decode cX12_offer 18 = .ok (.sipush 1000, 3) := by decide +kernel
theorem dX12_offer_21 : decode cX12_offer 21 = .ok (.goto 9, 3) := by decide +kernel
theorem dX12_offer_24 : decode cX12_offer 24 = .ok (.aload_n 0, 1) := by decide +kernel
theorem dX12_offer_25 : decode cX12_offer 25 = .ok (.getfield 237, 3) := by decide +kernel
theorem dX12_offer_28 : decode cX12_offer 28 = .ok (.iload_n 1, 1) := by decide +kernel
theorem dX12_offer_29 : decode cX12_offer 29 = .ok (.iadd, 1) := by decide +kernel
theorem dX12_offer_30 : decode cX12_offer 30 = .ok (.putfield 237, 3) := by decide +kernel
theorem dX12_offer_33 : decode cX12_offer 33 = .ok (.iload_n 2, 1) := by decide +kernel
theorem dX12_offer_34 : decode cX12_offer 34 = .ok (.aload_n 0, 1) := by decide +kernel
theorem dX12_offer_35 : decode cX12_offer 35 = .ok (.getfield 241, 3) := by decide +kernel
theorem dX12_offer_38 : decode cX12_offer 38 = .ok (.if_icmp .le 4, 3) := by decide +kernel
theorem dX12_offer_41 : decode cX12_offer 41 = .ok (.return_, 1) := by decide +kernel
theorem dX12_offer_42 : decode cX12_offer 42 = .ok (.iload_n 2, 1) := by decide +kernel
theorem dX12_offer_43 : decode cX12_offer 43 = .ok (.aload_n 0, 1) := by decide +kernel
theorem dX12_offer_44 : decode cX12_offer 44 = .ok (.getfield 241, 3) := by decide +kernel
theorem dX12_offer_47 : decode cX12_offer 47 = .ok (.if_icmp .ge 7, 3) := by decide +kernel
theorem dX12_offer_50 : decode cX12_offer 50 = .ok (.iconst 1, 1) := by decide +kernel
theorem dX12_offer_51 : decode cX12_offer 51 = .ok (.goto 4, 3) := by decide +kernel
theorem dX12_offer_54 : decode cX12_offer 54 = .ok (.iconst 0, 1) := by decide +kernel
theorem dX12_offer_55 : decode cX12_offer 55 = .ok (.istore_n 3, 1) := by decide +kernel
theorem dX12_offer_56 : decode cX12_offer 56 = .ok (.iconst 0, 1) := by decide +kernel
theorem dX12_offer_57 : decode cX12_offer 57 = .ok (.istore 4, 2) := by decide +kernel
theorem dX12_offer_59 : decode cX12_offer 59 = .ok (.iload 4, 2) := by decide +kernel
theorem dX12_offer_61 : decode cX12_offer 61 = .ok (.aload_n 0, 1) := by decide +kernel
theorem dX12_offer_62 : decode cX12_offer 62 = .ok (.getfield 247, 3) := by decide +kernel
theorem dX12_offer_65 : decode cX12_offer 65 = .ok (.if_icmp .ge 82, 3) := by decide +kernel
theorem dX12_offer_68 : decode cX12_offer 68 = .ok (.iload_n 3, 1) := by decide +kernel
theorem dX12_offer_69 : decode cX12_offer 69 = .ok (.ifCond .ne 78, 3) := by decide +kernel
theorem dX12_offer_72 : decode cX12_offer 72 = .ok (.iload 4, 2) := by decide +kernel
theorem dX12_offer_74 : decode cX12_offer 74 = .ok (.aload_n 0, 1) := by decide +kernel
theorem dX12_offer_75 : decode cX12_offer 75 = .ok (.getfield 244, 3) := by decide +kernel
theorem dX12_offer_78 : decode cX12_offer 78 = .ok (.if_icmp .ge 21, 3) := by decide +kernel
theorem dX12_offer_81 : decode cX12_offer 81 = .ok (.aload_n 0, 1) := by decide +kernel
theorem dX12_offer_82 : decode cX12_offer 82 = .ok (.getfield 113, 3) := by decide +kernel
theorem dX12_offer_85 : decode cX12_offer 85 = .ok (.iload 4, 2) := by decide +kernel
theorem dX12_offer_87 : decode cX12_offer 87 = .ok (.baload, 1) := by decide +kernel
theorem dX12_offer_88 : decode cX12_offer 88 = .ok (.aload_n 0, 1) := by decide +kernel
theorem dX12_offer_89 : decode cX12_offer 89 = .ok (.getfield 110, 3) := by decide +kernel
theorem dX12_offer_92 : decode cX12_offer 92 = .ok (.iload 4, 2) := by decide +kernel
theorem dX12_offer_94 : decode cX12_offer 94 = .ok (.baload, 1) := by decide +kernel
theorem dX12_offer_95 : decode cX12_offer 95 = .ok (.if_icmp .le 4, 3) := by decide +kernel
theorem dX12_offer_98 : decode cX12_offer 98 = .ok (.return_, 1) := by decide +kernel
theorem dX12_offer_99 : decode cX12_offer 99 = .ok (.iload 4, 2) := by decide +kernel
theorem dX12_offer_101 : decode cX12_offer 101 = .ok (.aload_n 0, 1) := by decide +kernel
theorem dX12_offer_102 : decode cX12_offer 102 = .ok (.getfield 244, 3) := by decide +kernel
theorem dX12_offer_105 : decode cX12_offer 105 = .ok (.if_icmp .ge 20, 3) := by decide +kernel
theorem dX12_offer_108 : decode cX12_offer 108 = .ok (.aload_n 0, 1) := by decide +kernel
theorem dX12_offer_109 : decode cX12_offer 109 = .ok (.getfield 113, 3) := by decide +kernel
theorem dX12_offer_112 : decode cX12_offer 112 = .ok (.iload 4, 2) := by decide +kernel
theorem dX12_offer_114 : decode cX12_offer 114 = .ok (.baload, 1) := by decide +kernel
theorem dX12_offer_115 : decode cX12_offer 115 = .ok (.aload_n 0, 1) := by decide +kernel
theorem dX12_offer_116 : decode cX12_offer 116 = .ok (.getfield 110, 3) := by decide +kernel
theorem dX12_offer_119 : decode cX12_offer 119 = .ok (.iload 4, 2) := by decide +kernel
theorem dX12_offer_121 : decode cX12_offer 121 = .ok (.baload, 1) := by decide +kernel
theorem dX12_offer_122 : decode cX12_offer 122 = .ok (.if_icmp .ge 7, 3) := by decide +kernel
theorem dX12_offer_125 : decode cX12_offer 125 = .ok (.iconst 1, 1) := by decide +kernel
theorem dX12_offer_126 : decode cX12_offer 126 = .ok (.goto 4, 3) := by decide +kernel
theorem dX12_offer_129 : decode cX12_offer 129 = .ok (.iconst 0, 1) := by decide +kernel
theorem dX12_offer_130 : decode cX12_offer 130 = .ok (.istore_n 3, 1) := by decide +kernel
theorem dX12_offer_131 : decode cX12_offer 131 = .ok (.iload 4, 2) := by decide +kernel
theorem dX12_offer_133 : decode cX12_offer 133 = .ok (.aload_n 0, 1) := by decide +kernel
theorem dX12_offer_134 : decode cX12_offer 134 = .ok (.getfield 244, 3) := by decide +kernel
theorem dX12_offer_137 : decode cX12_offer 137 = .ok (.if_icmp .lt 4, 3) := by decide +kernel
theorem dX12_offer_140 : decode cX12_offer 140 = .ok (.return_, 1) := by decide +kernel
theorem dX12_offer_141 : decode cX12_offer 141 = .ok (.iinc 4 1, 3) := by decide +kernel
theorem dX12_offer_144 : decode cX12_offer 144 = .ok (.goto (-85), 3) := by decide +kernel
theorem dX12_offer_147 : decode cX12_offer 147 = .ok (.iload_n 3, 1) := by decide +kernel
theorem dX12_offer_148 : decode cX12_offer 148 = .ok (.ifCond .ne 4, 3) := by decide +kernel
theorem dX12_offer_151 : decode cX12_offer 151 = .ok (.return_, 1) := by decide +kernel
theorem dX12_offer_152 : decode cX12_offer 152 = .ok (.aload_n 0, 1) := by decide +kernel
theorem dX12_offer_153 : decode cX12_offer 153 = .ok (.iload_n 2, 1) := by decide +kernel
theorem dX12_offer_154 : decode cX12_offer 154 = .ok (.putfield 241, 3) := by decide +kernel
theorem dX12_offer_157 : decode cX12_offer 157 = .ok (.aload_n 0, 1) := by decide +kernel
theorem dX12_offer_158 : decode cX12_offer 158 = .ok (.aload_n 0, 1) := by decide +kernel
theorem dX12_offer_159 : decode cX12_offer 159 = .ok (.getfield 247, 3) := by decide +kernel
theorem dX12_offer_162 : decode cX12_offer 162 = .ok (.putfield 244, 3) := by decide +kernel
theorem dX12_offer_165 : decode cX12_offer 165 = .ok (.iconst 0, 1) := by decide +kernel
theorem dX12_offer_166 : decode cX12_offer 166 = .ok (.istore 4, 2) := by decide +kernel
theorem dX12_offer_168 : decode cX12_offer 168 = .ok (.iload 4, 2) := by decide +kernel
theorem dX12_offer_170 : decode cX12_offer 170 = .ok (.aload_n 0, 1) := by decide +kernel
theorem dX12_offer_171 : decode cX12_offer 171 = .ok (.getfield 247, 3) := by decide +kernel
theorem dX12_offer_174 : decode cX12_offer 174 = .ok (.if_icmp .ge 23, 3) := by decide +kernel
theorem dX12_offer_177 : decode cX12_offer 177 = .ok (.aload_n 0, 1) := by decide +kernel
theorem dX12_offer_178 : decode cX12_offer 178 = .ok (.getfield 110, 3) := by decide +kernel
theorem dX12_offer_181 : decode cX12_offer 181 = .ok (.iload 4, 2) := by decide +kernel
theorem dX12_offer_183 : decode cX12_offer 183 = .ok (.aload_n 0, 1) := by decide +kernel
theorem dX12_offer_184 : decode cX12_offer 184 = .ok (.getfield 113, 3) := by decide +kernel
theorem dX12_offer_187 : decode cX12_offer 187 = .ok (.iload 4, 2) := by decide +kernel
theorem dX12_offer_189 : decode cX12_offer 189 = .ok (.baload, 1) := by decide +kernel
theorem dX12_offer_190 : decode cX12_offer 190 = .ok (.bastore, 1) := by decide +kernel
theorem dX12_offer_191 : decode cX12_offer 191 = .ok (.iinc 4 1, 3) := by decide +kernel
theorem dX12_offer_194 : decode cX12_offer 194 = .ok (.goto (-26), 3) := by decide +kernel
theorem dX12_offer_197 : decode cX12_offer 197 = .ok (.return_, 1) := by decide +kernel
def K_X12_offer_30 (G : xG) (l : Launch) (d : Nat) (P : xMem → Prop) (v2 s1 : Int) (μ : xMem) : Prop := RR G l d 0 0 false mX12_offer (qV P) 30 [some (xr G 74), none, some (xi v2), none, none] [xi s1, xr G 74] LAY μ 0 0
def K_X12_offer_59 (G : xG) (l : Launch) (d : Nat) (P : xMem → Prop) (v2 v3 v4 : Int) (μ : xMem) : Prop := RR G l d 0 0 false mX12_offer (qV P) 59 [some (xr G 74), none, some (xi v2), some (xi v3), some (xi v4)] [] LAY μ 0 0
def K_X12_offer_147 (G : xG) (l : Launch) (d : Nat) (P : xMem → Prop) (v2 v3 : Int) (μ : xMem) : Prop := RR G l d 0 0 false mX12_offer (qV P) 147 [some (xr G 74), none, some (xi v2), some (xi v3), none] [] LAY μ 0 0
def K_X12_offer_99 (G : xG) (l : Launch) (d : Nat) (P : xMem → Prop) (v2 v4 : Int) (μ : xMem) : Prop := RR G l d 0 0 false mX12_offer (qV P) 99 [some (xr G 74), none, some (xi v2), none, some (xi v4)] [] LAY μ 0 0
def K_X12_offer_168 (G : xG) (l : Launch) (d : Nat) (P : xMem → Prop) (v4 : Int) (μ : xMem) : Prop := RR G l d 0 0 false mX12_offer (qV P) 168 [some (xr G 74), none, none, none, some (xi v4)] [] LAY μ 0 0
def K_X12_offer_130 (G : xG) (l : Launch) (d : Nat) (P : xMem → Prop) (v2 v4 s0 : Int) (μ : xMem) : Prop := RR G l d 0 0 false mX12_offer (qV P) 130 [some (xr G 74), none, some (xi v2), none, some (xi v4)] [xi s0] LAY μ 0 0
set_option maxRecDepth 20000 in
theorem E_X12_offer {G : xG} {l : Launch} {d : Nat} {P : xMem → Prop} {v1 v2 : Int} {μ : xMem} (h : (iR v1 ∧ (v1 ≠ 0 → (iR ((μ 74 46) + v1) ∧ (((μ 74 46) + v1) ≤ 1000 → K_X12_offer_30 G l (d + 1) P v2 ((μ 74 46) + v1) μ) ∧ (1000 < ((μ 74 46) + v1) → K_X12_offer_30 G l (d + 1) P v2 1000 μ))) ∧ (v1 = 0 → P μ))) : CV G l (d + 1) mX12_offer [xr G 74, xi v1, xi v2] μ P := by
  refine CC.ofRR (ll := [some (xr G 74), some (xi v1), some (xi v2), none, none]) (by decide +kernel) (Nat.le_of_ble_eq_true rfl) rfl (fun h => by cases h) ?_
  refine xr_iload_n dX12_offer_0 rfl ?_
  obtain ⟨q1, hT2, hF3⟩ := h
  refine xr_if_ne (tgt := 5) dX12_offer_1 (by decide) q1  (fun c => ?_) (fun c => ?_)
  · have h := hT2 c
    refine xr_aload_n dX12_offer_5 rfl ?_
    refine xr_aload_n dX12_offer_6 rfl ?_
    refine xr_getI' (v := μ 74 46) dX12_offer_7 fl_X12_237 L_74 rfl rfl rfl ?_
    refine xr_iload_n dX12_offer_10 rfl ?_
    refine xr_iadd dX12_offer_11 ?_
    refine xr_sipush dX12_offer_12 (by decide) ?_
    obtain ⟨q4, hT5, hF6⟩ := h
    refine xr_icmp_le (tgt := 24) dX12_offer_15 (by decide) q4 (by decide) (fun c => ?_) (fun c => ?_)
    · have h := hT5 c
      refine xr_aload_n dX12_offer_24 rfl ?_
      refine xr_getI' (v := μ 74 46) dX12_offer_25 fl_X12_237 L_74 rfl rfl rfl ?_
      refine xr_iload_n dX12_offer_28 rfl ?_
      refine xr_iadd dX12_offer_29 ?_
      refine xr_wk (ll' := [some (xr G 74), none, some (xi v2), none, none]) ⟨rfl, ⟨rfl, trivial⟩⟩ ?_
      exact h
    · have h := hF6 (Int.not_le.mp c)
      refine xr_sipush dX12_offer_18 (by decide) ?_
      refine xr_goto (tgt := 30) dX12_offer_21 (by decide) ?_
      refine xr_wk (ll' := [some (xr G 74), none, some (xi v2), none, none]) ⟨rfl, ⟨rfl, trivial⟩⟩ ?_
      exact h
  · have h := hF3 c
    exact xr_ret dX12_offer_4 rfl ⟨rfl, rfl, h⟩
set_option maxRecDepth 20000 in
theorem B_X12_offer_30 {G : xG} {l : Launch} {d : Nat} {P : xMem → Prop} {v2 s1 : Int} {μ : xMem} (h : (iR v2 ∧ iR (μ 74 47) ∧ (v2 ≤ (μ 74 47) → (((μ 74 47) ≤ v2 → K_X12_offer_59 G l (d + 1) P v2 0 0 (st2 μ 74 46 s1)) ∧ (v2 < (μ 74 47) → K_X12_offer_59 G l (d + 1) P v2 1 0 (st2 μ 74 46 s1)))) ∧ ((μ 74 47) < v2 → P (st2 μ 74 46 s1)))) : K_X12_offer_30 G l (d + 1) P v2 s1 μ := by
  unfold K_X12_offer_30
  refine xr_putI dX12_offer_30 fp_X12_237 L_74 rfl rfl ⟨rfl, rfl⟩ ?_
  refine xr_iload_n dX12_offer_33 rfl ?_
  refine xr_aload_n dX12_offer_34 rfl ?_
  refine xr_getI' (v := μ 74 47) dX12_offer_35 fl_X12_241 L_74 rfl rfl (by simp [st2, cpy]) ?_
  obtain ⟨q1, q2, hT3, hF4⟩ := h
  refine xr_icmp_le (tgt := 42) dX12_offer_38 (by decide) q1 q2 (fun c => ?_) (fun c => ?_)
  · have h := hT3 c
    refine xr_iload_n dX12_offer_42 rfl ?_
    refine xr_aload_n dX12_offer_43 rfl ?_
    refine xr_getI' (v := μ 74 47) dX12_offer_44 fl_X12_241 L_74 rfl rfl (by simp [st2, cpy]) ?_
    obtain ⟨hT5, hF6⟩ := h
    refine xr_icmp_ge (tgt := 54) dX12_offer_47 (by decide) q1 q2 (fun c => ?_) (fun c => ?_)
    · have h := hT5 c
      refine xr_iconst dX12_offer_54 ?_
      refine xr_istore_n' (ll' := [some (xr G 74), none, some (xi v2), some (xi 0), none]) dX12_offer_55 (by decide) rfl rfl ?_
      refine xr_iconst dX12_offer_56 ?_
      refine xr_istore' (ll' := [some (xr G 74), none, some (xi v2), some (xi 0), some (xi 0)]) dX12_offer_57 (by decide) rfl rfl ?_
      exact h
    · have h := hF6 (Int.not_le.mp c)
      refine xr_iconst dX12_offer_50 ?_
      refine xr_goto (tgt := 55) dX12_offer_51 (by decide) ?_
      refine xr_istore_n' (ll' := [some (xr G 74), none, some (xi v2), some (xi 1), none]) dX12_offer_55 (by decide) rfl rfl ?_
      refine xr_iconst dX12_offer_56 ?_
      refine xr_istore' (ll' := [some (xr G 74), none, some (xi v2), some (xi 1), some (xi 0)]) dX12_offer_57 (by decide) rfl rfl ?_
      exact h
  · have h := hF4 (Int.not_le.mp c)
    exact xr_ret dX12_offer_41 rfl ⟨rfl, rfl, h⟩
set_option maxRecDepth 20000 in
theorem B_X12_offer_59 {G : xG} {l : Launch} {d : Nat} {P : xMem → Prop} {v2 v3 v4 : Int} {μ : xMem} (h : (iR v4 ∧ iR (μ 74 49) ∧ ((μ 74 49) ≤ v4 → K_X12_offer_147 G l (d + 1) P v2 v3 μ) ∧ (v4 < (μ 74 49) → (iR v3 ∧ (v3 ≠ 0 → K_X12_offer_147 G l (d + 1) P v2 v3 μ) ∧ (v3 = 0 → (iR (μ 74 48) ∧ ((μ 74 48) ≤ v4 → K_X12_offer_99 G l (d + 1) P v2 v4 μ) ∧ (v4 < (μ 74 48) → ((0 ≤ v4 ∧ v4 < 80) ∧ ((0 ≤ v4 ∧ v4 < 40) ∧ (iR (μ 106 v4) ∧ iR (μ 105 v4) ∧ ((μ 106 v4) ≤ (μ 105 v4) → K_X12_offer_99 G l (d + 1) P v2 v4 μ) ∧ ((μ 105 v4) < (μ 106 v4) → P μ))))))))))) : K_X12_offer_59 G l (d + 1) P v2 v3 v4 μ := by
  unfold K_X12_offer_59
  refine xr_iload dX12_offer_59 rfl ?_
  refine xr_aload_n dX12_offer_61 rfl ?_
  refine xr_getI' (v := μ 74 49) dX12_offer_62 fl_X12_247 L_74 rfl rfl rfl ?_
  obtain ⟨q1, q2, hT3, hF4⟩ := h
  refine xr_icmp_ge (tgt := 147) dX12_offer_65 (by decide) q1 q2 (fun c => ?_) (fun c => ?_)
  · have h := hT3 c
    refine xr_wk (ll' := [some (xr G 74), none, some (xi v2), some (xi v3), none]) ⟨rfl, ⟨rfl, ⟨rfl, trivial⟩⟩⟩ ?_
    exact h
  · have h := hF4 (Int.not_le.mp c)
    refine xr_iload_n dX12_offer_68 rfl ?_
    obtain ⟨q5, hT6, hF7⟩ := h
    refine xr_if_ne (tgt := 147) dX12_offer_69 (by decide) q5  (fun c => ?_) (fun c => ?_)
    · have h := hT6 c
      refine xr_wk (ll' := [some (xr G 74), none, some (xi v2), some (xi v3), none]) ⟨rfl, ⟨rfl, ⟨rfl, trivial⟩⟩⟩ ?_
      exact h
    · have h := hF7 c
      refine xr_iload dX12_offer_72 rfl ?_
      refine xr_aload_n dX12_offer_74 rfl ?_
      refine xr_getI' (v := μ 74 48) dX12_offer_75 fl_X12_244 L_74 rfl rfl rfl ?_
      obtain ⟨q8, hT9, hF10⟩ := h
      refine xr_icmp_ge (tgt := 99) dX12_offer_78 (by decide) q1 q8 (fun c => ?_) (fun c => ?_)
      · have h := hT9 c
        refine xr_wk (ll' := [some (xr G 74), none, some (xi v2), none, some (xi v4)]) ⟨rfl, ⟨rfl, ⟨rfl, trivial⟩⟩⟩ ?_
        exact h
      · have h := hF10 (Int.not_le.mp c)
        refine xr_aload_n dX12_offer_81 rfl ?_
        refine xr_getR dX12_offer_82 fl_X12_113 L_74 rfl ?_
        refine xr_iload dX12_offer_85 rfl ?_
        obtain ⟨q11, h⟩ := h
        refine xr_baload' (v := μ 106 v4) dX12_offer_87 L_106 rfl (by decide) q11 rfl ?_
        refine xr_aload_n dX12_offer_88 rfl ?_
        refine xr_getR dX12_offer_89 fl_X12_110 L_74 rfl ?_
        refine xr_iload dX12_offer_92 rfl ?_
        obtain ⟨q12, h⟩ := h
        refine xr_baload' (v := μ 105 v4) dX12_offer_94 L_105 rfl (by decide) q12 rfl ?_
        obtain ⟨q13, q14, hT15, hF16⟩ := h
        refine xr_icmp_le (tgt := 99) dX12_offer_95 (by decide) q13 q14 (fun c => ?_) (fun c => ?_)
        · have h := hT15 c
          refine xr_wk (ll' := [some (xr G 74), none, some (xi v2), none, some (xi v4)]) ⟨rfl, ⟨rfl, ⟨rfl, trivial⟩⟩⟩ ?_
          exact h
        · have h := hF16 (Int.not_le.mp c)
          exact xr_ret dX12_offer_98 rfl ⟨rfl, rfl, h⟩
set_option maxRecDepth 20000 in
theorem B_X12_offer_147 {G : xG} {l : Launch} {d : Nat} {P : xMem → Prop} {v2 v3 : Int} {μ : xMem} (h : (iR v3 ∧ (v3 ≠ 0 → K_X12_offer_168 G l (d + 1) P 0 (st2 (st2 μ 74 47 v2) 74 48 (μ 74 49))) ∧ (v3 = 0 → P μ))) : K_X12_offer_147 G l (d + 1) P v2 v3 μ := by
  unfold K_X12_offer_147
  refine xr_iload_n dX12_offer_147 rfl ?_
  obtain ⟨q1, hT2, hF3⟩ := h
  refine xr_if_ne (tgt := 152) dX12_offer_148 (by decide) q1  (fun c => ?_) (fun c => ?_)
  · have h := hT2 c
    refine xr_aload_n dX12_offer_152 rfl ?_
    refine xr_iload_n dX12_offer_153 rfl ?_
    refine xr_putI dX12_offer_154 fp_X12_241 L_74 rfl rfl ⟨rfl, rfl⟩ ?_
    refine xr_aload_n dX12_offer_157 rfl ?_
    refine xr_aload_n dX12_offer_158 rfl ?_
    refine xr_getI' (v := μ 74 49) dX12_offer_159 fl_X12_247 L_74 rfl rfl (by simp [st2, cpy]) ?_
    refine xr_putI dX12_offer_162 fp_X12_244 L_74 rfl rfl ⟨rfl, rfl⟩ ?_
    refine xr_iconst dX12_offer_165 ?_
    refine xr_istore' (ll' := [some (xr G 74), none, some (xi v2), some (xi v3), some (xi 0)]) dX12_offer_166 (by decide) rfl rfl ?_
    refine xr_wk (ll' := [some (xr G 74), none, none, none, some (xi 0)]) ⟨rfl, ⟨rfl, trivial⟩⟩ ?_
    exact h
  · have h := hF3 c
    exact xr_ret dX12_offer_151 rfl ⟨rfl, rfl, h⟩
set_option maxRecDepth 20000 in
theorem B_X12_offer_99 {G : xG} {l : Launch} {d : Nat} {P : xMem → Prop} {v2 v4 : Int} {μ : xMem} (h : (iR v4 ∧ iR (μ 74 48) ∧ ((μ 74 48) ≤ v4 → K_X12_offer_130 G l (d + 1) P v2 v4 1 μ) ∧ (v4 < (μ 74 48) → ((0 ≤ v4 ∧ v4 < 80) ∧ ((0 ≤ v4 ∧ v4 < 40) ∧ (iR (μ 106 v4) ∧ iR (μ 105 v4) ∧ ((μ 105 v4) ≤ (μ 106 v4) → K_X12_offer_130 G l (d + 1) P v2 v4 0 μ) ∧ ((μ 106 v4) < (μ 105 v4) → K_X12_offer_130 G l (d + 1) P v2 v4 1 μ))))))) : K_X12_offer_99 G l (d + 1) P v2 v4 μ := by
  unfold K_X12_offer_99
  refine xr_iload dX12_offer_99 rfl ?_
  refine xr_aload_n dX12_offer_101 rfl ?_
  refine xr_getI' (v := μ 74 48) dX12_offer_102 fl_X12_244 L_74 rfl rfl rfl ?_
  obtain ⟨q1, q2, hT3, hF4⟩ := h
  refine xr_icmp_ge (tgt := 125) dX12_offer_105 (by decide) q1 q2 (fun c => ?_) (fun c => ?_)
  · have h := hT3 c
    refine xr_iconst dX12_offer_125 ?_
    refine xr_goto (tgt := 130) dX12_offer_126 (by decide) ?_
    exact h
  · have h := hF4 (Int.not_le.mp c)
    refine xr_aload_n dX12_offer_108 rfl ?_
    refine xr_getR dX12_offer_109 fl_X12_113 L_74 rfl ?_
    refine xr_iload dX12_offer_112 rfl ?_
    obtain ⟨q5, h⟩ := h
    refine xr_baload' (v := μ 106 v4) dX12_offer_114 L_106 rfl (by decide) q5 rfl ?_
    refine xr_aload_n dX12_offer_115 rfl ?_
    refine xr_getR dX12_offer_116 fl_X12_110 L_74 rfl ?_
    refine xr_iload dX12_offer_119 rfl ?_
    obtain ⟨q6, h⟩ := h
    refine xr_baload' (v := μ 105 v4) dX12_offer_121 L_105 rfl (by decide) q6 rfl ?_
    obtain ⟨q7, q8, hT9, hF10⟩ := h
    refine xr_icmp_ge (tgt := 129) dX12_offer_122 (by decide) q7 q8 (fun c => ?_) (fun c => ?_)
    · have h := hT9 c
      refine xr_iconst dX12_offer_129 ?_
      exact h
    · have h := hF10 (Int.not_le.mp c)
      refine xr_iconst dX12_offer_125 ?_
      refine xr_goto (tgt := 130) dX12_offer_126 (by decide) ?_
      exact h
set_option maxRecDepth 20000 in
theorem B_X12_offer_168 {G : xG} {l : Launch} {d : Nat} {P : xMem → Prop} {v4 : Int} {μ : xMem} (h : (iR v4 ∧ iR (μ 74 49) ∧ ((μ 74 49) ≤ v4 → P μ) ∧ (v4 < (μ 74 49) → ((0 ≤ v4 ∧ v4 < 80) ∧ ((0 ≤ v4 ∧ v4 < 40) ∧ K_X12_offer_168 G l (d + 1) P (v4 + 1) (st2 μ 105 v4 (j8 (μ 106 v4)))))))) : K_X12_offer_168 G l (d + 1) P v4 μ := by
  unfold K_X12_offer_168
  refine xr_iload dX12_offer_168 rfl ?_
  refine xr_aload_n dX12_offer_170 rfl ?_
  refine xr_getI' (v := μ 74 49) dX12_offer_171 fl_X12_247 L_74 rfl rfl rfl ?_
  obtain ⟨q1, q2, hT3, hF4⟩ := h
  refine xr_icmp_ge (tgt := 197) dX12_offer_174 (by decide) q1 q2 (fun c => ?_) (fun c => ?_)
  · have h := hT3 c
    exact xr_ret dX12_offer_197 rfl ⟨rfl, rfl, h⟩
  · have h := hF4 (Int.not_le.mp c)
    refine xr_aload_n dX12_offer_177 rfl ?_
    refine xr_getR dX12_offer_178 fl_X12_110 L_74 rfl ?_
    refine xr_iload dX12_offer_181 rfl ?_
    refine xr_aload_n dX12_offer_183 rfl ?_
    refine xr_getR dX12_offer_184 fl_X12_113 L_74 rfl ?_
    refine xr_iload dX12_offer_187 rfl ?_
    obtain ⟨q5, h⟩ := h
    refine xr_baload' (v := μ 106 v4) dX12_offer_189 L_106 rfl (by decide) q5 rfl ?_
    obtain ⟨q6, h⟩ := h
    refine xr_bastore dX12_offer_190 L_105 rfl (by decide) q6 ?_
    refine xr_iinc' (ll' := [some (xr G 74), none, none, none, some (xi (v4 + 1))]) dX12_offer_191 rfl (by decide) rfl rfl ?_
    refine xr_goto (tgt := 168) dX12_offer_194 (by decide) ?_
    exact h
set_option maxRecDepth 20000 in
theorem B_X12_offer_130 {G : xG} {l : Launch} {d : Nat} {P : xMem → Prop} {v2 v4 s0 : Int} {μ : xMem} (h : (iR v4 ∧ iR (μ 74 48) ∧ (v4 < (μ 74 48) → K_X12_offer_59 G l (d + 1) P v2 s0 (v4 + 1) μ) ∧ ((μ 74 48) ≤ v4 → P μ))) : K_X12_offer_130 G l (d + 1) P v2 v4 s0 μ := by
  unfold K_X12_offer_130
  refine xr_istore_n' (ll' := [some (xr G 74), none, some (xi v2), some (xi s0), some (xi v4)]) dX12_offer_130 (by decide) rfl rfl ?_
  refine xr_iload dX12_offer_131 rfl ?_
  refine xr_aload_n dX12_offer_133 rfl ?_
  refine xr_getI' (v := μ 74 48) dX12_offer_134 fl_X12_244 L_74 rfl rfl rfl ?_
  obtain ⟨q1, q2, hT3, hF4⟩ := h
  refine xr_icmp_lt (tgt := 141) dX12_offer_137 (by decide) q1 q2 (fun c => ?_) (fun c => ?_)
  · have h := hT3 c
    refine xr_iinc' (ll' := [some (xr G 74), none, some (xi v2), some (xi s0), some (xi (v4 + 1))]) dX12_offer_141 rfl (by decide) rfl rfl ?_
    refine xr_goto (tgt := 59) dX12_offer_144 (by decide) ?_
    exact h
  · have h := hF4 (Int.not_lt.mp c)
    exact xr_ret dX12_offer_140 rfl ⟨rfl, rfl, h⟩
theorem dX12_times_0 : decode cX12_times 0 = .ok (.iload_n 0, 1) := by decide +kernel
theorem dX12_times_1 : decode cX12_times 1 = .ok (.iload_n 1, 1) := by decide +kernel
theorem dX12_times_2 : decode cX12_times 2 = .ok (.imul, 1) := by decide +kernel
theorem dX12_times_3 : decode cX12_times 3 = .ok (.sipush 1000, 3) := by decide +kernel
theorem dX12_times_6 : decode cX12_times 6 = .ok (.if_icmp .le 9, 3) := by decide +kernel
theorem dX12_times_9 : decode cX12_times 9 = .ok (.sipush 1000, 3) := by decide +kernel
theorem dX12_times_12 : decode cX12_times 12 = .ok (.goto 6, 3) := by decide +kernel
theorem dX12_times_15 : decode cX12_times 15 = .ok (.iload_n 0, 1) := by decide +kernel
theorem dX12_times_16 : decode cX12_times 16 = .ok (.iload_n 1, 1) := by decide +kernel
theorem dX12_times_17 : decode cX12_times 17 = .ok (.imul, 1) := by decide +kernel
theorem dX12_times_18 : decode cX12_times 18 = .ok (.ireturn, 1) := by decide +kernel
set_option maxRecDepth 20000 in
theorem E_X12_times {G : xG} {l : Launch} {d : Nat} {P : Int → xMem → Prop} {v0 v1 : Int} {μ : xMem} (h : (iR (v0 * v1) ∧ ((v0 * v1) ≤ 1000 → P (v0 * v1) μ) ∧ (1000 < (v0 * v1) → P 1000 μ))) : CI G l (d + 1) mX12_times [xi v0, xi v1] μ P := by
  refine CC.ofRR (ll := [some (xi v0), some (xi v1)]) (by decide +kernel) (Nat.le_of_ble_eq_true rfl) rfl (fun h => by cases h) ?_
  refine xr_iload_n dX12_times_0 rfl ?_
  refine xr_iload_n dX12_times_1 rfl ?_
  refine xr_imul dX12_times_2 ?_
  refine xr_sipush dX12_times_3 (by decide) ?_
  obtain ⟨q1, hT2, hF3⟩ := h
  refine xr_icmp_le (tgt := 15) dX12_times_6 (by decide) q1 (by decide) (fun c => ?_) (fun c => ?_)
  · have h := hT2 c
    refine xr_iload_n dX12_times_15 rfl ?_
    refine xr_iload_n dX12_times_16 rfl ?_
    refine xr_imul dX12_times_17 ?_
    exact xr_iret dX12_times_18 rfl ⟨rfl, _, rfl, q1, h⟩
  · have h := hF3 (Int.not_le.mp c)
    refine xr_sipush dX12_times_9 (by decide) ?_
    refine xr_goto (tgt := 18) dX12_times_12 (by decide) ?_
    exact xr_iret dX12_times_18 rfl ⟨rfl, _, rfl, (by decide), h⟩
theorem dX12_takeRun_0 : decode cX12_takeRun 0 = .ok (.aload_n 0, 1) := by decide +kernel
theorem dX12_takeRun_1 : decode cX12_takeRun 1 = .ok (.iload_n 2, 1) := by decide +kernel
theorem dX12_takeRun_2 : decode cX12_takeRun 2 = .ok (.iload_n 1, 1) := by decide +kernel
theorem dX12_takeRun_3 : decode cX12_takeRun 3 = .ok (.isub, 1) := by decide +kernel
theorem dX12_takeRun_4 : decode cX12_takeRun 4 = .ok (.putfield 253, 3) := by decide +kernel
theorem dX12_takeRun_7 : decode cX12_takeRun 7 = .ok (.iconst 0, 1) := by decide +kernel
theorem dX12_takeRun_8 : decode cX12_takeRun 8 = .ok (.istore 4, 2) := by decide +kernel
theorem dX12_takeRun_10 : decode cX12_takeRun 10 = .ok (.iload 4, 2) := by decide +kernel
theorem dX12_takeRun_12 : decode cX12_takeRun 12 = .ok (.aload_n 0, 1) := by decide +kernel
theorem dX12_takeRun_13 : decode cX12_takeRun 13 = .ok (.getfield 253, 3) := by decide +kernel
theorem dX12_takeRun_16 : decode cX12_takeRun 16 = .ok (.if_icmp .ge 43, 3) := by decide +kernel
theorem dX12_takeRun_19 : decode cX12_takeRun 19 = .ok (.aload_n 0, 1) := by decide +kernel
theorem dX12_takeRun_20 : decode cX12_takeRun 20 = .ok (.getfield 101, 3) := by decide +kernel
theorem dX12_takeRun_23 : decode cX12_takeRun 23 = .ok (.iload 4, 2) := by decide +kernel
theorem dX12_takeRun_25 : decode cX12_takeRun 25 = .ok (.iload_n 3, 1) := by decide +kernel
theorem dX12_takeRun_26 : decode cX12_takeRun 26 = .ok (.ifCond .ne 15, 3) := by decide +kernel
theorem dX12_takeRun_29 : decode cX12_takeRun 29 = .ok (.aload_n 0, 1) := by decide +kernel
theorem dX12_takeRun_30 : decode cX12_takeRun 30 = .ok (.getfield 98, 3) := by decide +kernel
theorem dX12_takeRun_33 : decode cX12_takeRun 33 = .ok (.iload_n 1, 1) := by decide +kernel
theorem dX12_takeRun_34 : decode cX12_takeRun 34 = .ok (.iload 4, 2) := by decide +kernel
theorem dX12_takeRun_36 : decode cX12_takeRun 36 = .ok (.iadd, 1) := by decide +kernel
theorem dX12_takeRun_37 : decode cX12_takeRun 37 = .ok (.iaload, 1) := by decide +kernel
theorem dX12_takeRun_38 : decode cX12_takeRun 38 = .ok (.goto 14, 3) := by decide +kernel
theorem dX12_takeRun_41 : decode cX12_takeRun 41 = .ok (.aload_n 0, 1) := by decide +kernel
theorem dX12_takeRun_42 : decode cX12_takeRun 42 = .ok (.getfield 98, 3) := by decide +kernel
theorem dX12_takeRun_45 : decode cX12_takeRun 45 = .ok (.iload_n 2, 1) := by decide +kernel
theorem dX12_takeRun_46 : decode cX12_takeRun 46 = .ok (.iconst 1, 1) := by decide +kernel
theorem dX12_takeRun_47 : decode cX12_takeRun 47 = .ok (.isub, 1) := by decide +kernel
theorem dX12_takeRun_48 : decode cX12_takeRun 48 = .ok (.iload 4, 2) := by decide +kernel
theorem dX12_takeRun_50 : decode cX12_takeRun 50 = .ok (.isub, 1) := by decide +kernel
theorem dX12_takeRun_51 : decode cX12_takeRun 51 = .ok (.iaload, 1) := by decide +kernel
theorem dX12_takeRun_52 : decode cX12_takeRun 52 = .ok (.iastore, 1) := by decide +kernel
theorem dX12_takeRun_53 : decode cX12_takeRun 53 = .ok (.iinc 4 1, 3) := by decide +kernel
theorem dX12_takeRun_56 : decode cX12_takeRun 56 = .ok (.goto (-46), 3) := by decide +kernel
theorem dX12_takeRun_59 : decode cX12_takeRun 59 = .ok (.return_, 1) := by decide +kernel
def K_X12_takeRun_10 (G : xG) (l : Launch) (d : Nat) (P : xMem → Prop) (v1 v2 v3 v4 : Int) (μ : xMem) : Prop := RR G l d 0 0 false mX12_takeRun (qV P) 10 [some (xr G 74), some (xi v1), some (xi v2), some (xi v3), some (xi v4)] [] LAY μ 0 0
set_option maxRecDepth 20000 in
theorem E_X12_takeRun {G : xG} {l : Launch} {d : Nat} {P : xMem → Prop} {v1 v2 v3 : Int} {μ : xMem} (h : K_X12_takeRun_10 G l (d + 1) P v1 v2 v3 0 (st2 μ 74 43 (v2 - v1))) : CV G l (d + 1) mX12_takeRun [xr G 74, xi v1, xi v2, xi v3] μ P := by
  refine CC.ofRR (ll := [some (xr G 74), some (xi v1), some (xi v2), some (xi v3), none]) (by decide +kernel) (Nat.le_of_ble_eq_true rfl) rfl (fun h => by cases h) ?_
  refine xr_aload_n dX12_takeRun_0 rfl ?_
  refine xr_iload_n dX12_takeRun_1 rfl ?_
  refine xr_iload_n dX12_takeRun_2 rfl ?_
  refine xr_isub dX12_takeRun_3 ?_
  refine xr_putI dX12_takeRun_4 fp_X12_253 L_74 rfl rfl ⟨rfl, rfl⟩ ?_
  refine xr_iconst dX12_takeRun_7 ?_
  refine xr_istore' (ll' := [some (xr G 74), some (xi v1), some (xi v2), some (xi v3), some (xi 0)]) dX12_takeRun_8 (by decide) rfl rfl ?_
  exact h
set_option maxRecDepth 20000 in
theorem B_X12_takeRun_10 {G : xG} {l : Launch} {d : Nat} {P : xMem → Prop} {v1 v2 v3 v4 : Int} {μ : xMem} (h : (iR v4 ∧ iR (μ 74 43) ∧ ((μ 74 43) ≤ v4 → P μ) ∧ (v4 < (μ 74 43) → (iR v3 ∧ (v3 ≠ 0 → ((0 ≤ (v2 - 1) - v4 ∧ (v2 - 1) - v4 < 10) ∧ ((0 ≤ v4 ∧ v4 < 10) ∧ K_X12_takeRun_10 G l (d + 1) P v1 v2 v3 (v4 + 1) (st2 μ 102 v4 (μ 101 ((v2 - 1) - v4)))))) ∧ (v3 = 0 → ((0 ≤ v1 + v4 ∧ v1 + v4 < 10) ∧ ((0 ≤ v4 ∧ v4 < 10) ∧ K_X12_takeRun_10 G l (d + 1) P v1 v2 v3 (v4 + 1) (st2 μ 102 v4 (μ 101 (v1 + v4)))))))))) : K_X12_takeRun_10 G l (d + 1) P v1 v2 v3 v4 μ := by
  unfold K_X12_takeRun_10
  refine xr_iload dX12_takeRun_10 rfl ?_
  refine xr_aload_n dX12_takeRun_12 rfl ?_
  refine xr_getI' (v := μ 74 43) dX12_takeRun_13 fl_X12_253 L_74 rfl rfl rfl ?_
  obtain ⟨q1, q2, hT3, hF4⟩ := h
  refine xr_icmp_ge (tgt := 59) dX12_takeRun_16 (by decide) q1 q2 (fun c => ?_) (fun c => ?_)
  · have h := hT3 c
    exact xr_ret dX12_takeRun_59 rfl ⟨rfl, rfl, h⟩
  · have h := hF4 (Int.not_le.mp c)
    refine xr_aload_n dX12_takeRun_19 rfl ?_
    refine xr_getR dX12_takeRun_20 fl_X12_101 L_74 rfl ?_
    refine xr_iload dX12_takeRun_23 rfl ?_
    refine xr_iload_n dX12_takeRun_25 rfl ?_
    obtain ⟨q5, hT6, hF7⟩ := h
    refine xr_if_ne (tgt := 41) dX12_takeRun_26 (by decide) q5  (fun c => ?_) (fun c => ?_)
    · have h := hT6 c
      refine xr_aload_n dX12_takeRun_41 rfl ?_
      refine xr_getR dX12_takeRun_42 fl_X12_98 L_74 rfl ?_
      refine xr_iload_n dX12_takeRun_45 rfl ?_
      refine xr_iconst dX12_takeRun_46 ?_
      refine xr_isub dX12_takeRun_47 ?_
      refine xr_iload dX12_takeRun_48 rfl ?_
      refine xr_isub dX12_takeRun_50 ?_
      obtain ⟨q8, h⟩ := h
      refine xr_iaload' (v := μ 101 ((v2 - 1) - v4)) dX12_takeRun_51 L_101 rfl (by decide) q8 rfl ?_
      obtain ⟨q9, h⟩ := h
      refine xr_iastore dX12_takeRun_52 L_102 rfl (by decide) q9 ?_
      refine xr_iinc' (ll' := [some (xr G 74), some (xi v1), some (xi v2), some (xi v3), some (xi (v4 + 1))]) dX12_takeRun_53 rfl (by decide) rfl rfl ?_
      refine xr_goto (tgt := 10) dX12_takeRun_56 (by decide) ?_
      exact h
    · have h := hF7 c
      refine xr_aload_n dX12_takeRun_29 rfl ?_
      refine xr_getR dX12_takeRun_30 fl_X12_98 L_74 rfl ?_
      refine xr_iload_n dX12_takeRun_33 rfl ?_
      refine xr_iload dX12_takeRun_34 rfl ?_
      refine xr_iadd dX12_takeRun_36 ?_
      obtain ⟨q10, h⟩ := h
      refine xr_iaload' (v := μ 101 (v1 + v4)) dX12_takeRun_37 L_101 rfl (by decide) q10 rfl ?_
      refine xr_goto (tgt := 52) dX12_takeRun_38 (by decide) ?_
      obtain ⟨q11, h⟩ := h
      refine xr_iastore dX12_takeRun_52 L_102 rfl (by decide) q11 ?_
      refine xr_iinc' (ll' := [some (xr G 74), some (xi v1), some (xi v2), some (xi v3), some (xi (v4 + 1))]) dX12_takeRun_53 rfl (by decide) rfl rfl ?_
      refine xr_goto (tgt := 10) dX12_takeRun_56 (by decide) ?_
      exact h
theorem dX12_isAround_0 : decode cX12_isAround 0 = .ok (.aload_n 0, 1) := by decide +kernel
theorem dX12_isAround_1 : decode cX12_isAround 1 = .ok (.getfield 16, 3) := by decide +kernel
theorem dX12_isAround_4 : decode cX12_isAround 4 = .ok (.iload_n 1, 1) := by decide +kernel
theorem dX12_isAround_5 : decode cX12_isAround 5 = .ok (.iaload, 1) := by decide +kernel
theorem dX12_isAround_6 : decode cX12_isAround 6 = .ok (.iload_n 2, 1) := by decide +kernel
theorem dX12_isAround_7 : decode cX12_isAround 7 = .ok (.isub, 1) := by decide +kernel
theorem dX12_isAround_8 : decode cX12_isAround 8 = .ok (.iload_n 3, 1) := by decide +kernel
theorem dX12_isAround_9 : decode cX12_isAround 9 = .ok (.isub, 1) := by decide +kernel
theorem dX12_isAround_10 : decode cX12_isAround 10 = .ok (.aload_n 0, 1) := by decide +kernel
theorem dX12_isAround_11 : decode cX12_isAround 11 = .ok (.getfield 256, 3) := by decide +kernel
theorem dX12_isAround_14 : decode cX12_isAround 14 = .ok (.if_icmp .eq 5, 3) := by decide +kernel
theorem dX12_isAround_17 : decode cX12_isAround 17 = .ok (.iconst 0, 1) := by decide +kernel
theorem dX12_isAround_18 : decode cX12_isAround 18 = .ok (.ireturn, 1) := by decide +kernel
theorem dX12_isAround_19 : decode cX12_isAround 19 = .ok (.iconst 0, 1) := by decide +kernel
theorem dX12_isAround_20 : decode cX12_isAround 20 = .ok (.istore 4, 2) := by decide +kernel
theorem dX12_isAround_22 : decode cX12_isAround 22 = .ok (.iload 4, 2) := by decide +kernel
theorem dX12_isAround_24 : decode cX12_isAround 24 = .ok (.aload_n 0, 1) := by decide +kernel
theorem dX12_isAround_25 : decode cX12_isAround 25 = .ok (.getfield 256, 3) := by decide +kernel
theorem dX12_isAround_28 : decode cX12_isAround 28 = .ok (.if_icmp .ge 35, 3) := by decide +kernel
theorem dX12_isAround_31 : decode cX12_isAround 31 = .ok (.aload_n 0, 1) := by decide +kernel
theorem dX12_isAround_32 : decode cX12_isAround 32 = .ok (.getfield 13, 3) := by decide +kernel
theorem dX12_isAround_35 : decode cX12_isAround 35 = .ok (.bipush 10, 2) := by decide +kernel
theorem dX12_isAround_37 : decode cX12_isAround 37 = .ok (.iload_n 1, 1) := by decide +kernel
theorem dX12_isAround_38 : decode cX12_isAround 38 = .ok (.imul, 1) := by decide +kernel
theorem dX12_isAround_39 : decode cX12_isAround 39 = .ok (.iload_n 2, 1) := by decide +kernel
theorem dX12_isAround_40 : decode cX12_isAround 40 = .ok (.iadd, 1) := by decide +kernel
theorem dX12_isAround_41 : decode cX12_isAround 41 = .ok (.iload 4, 2) := by decide +kernel
theorem dX12_isAround_43 : decode cX12_isAround 43 = .ok (.iadd, 1) := by decide +kernel
theorem dX12_isAround_44 : decode cX12_isAround 44 = .ok (.baload, 1) := by decide +kernel
theorem dX12_isAround_45 : decode cX12_isAround 45 = .ok (.aload_n 0, 1) := by decide +kernel
theorem dX12_isAround_46 : decode cX12_isAround 46 = .ok (.getfield 104, 3) := by decide +kernel
theorem dX12_isAround_49 : decode cX12_isAround 49 = .ok (.iload 4, 2) := by decide +kernel
theorem dX12_isAround_51 : decode cX12_isAround 51 = .ok (.iaload, 1) := by decide +kernel
theorem dX12_isAround_52 : decode cX12_isAround 52 = .ok (.if_icmp .eq 5, 3) := by decide +kernel
theorem dX12_isAround_55 : decode cX12_isAround 55 = .ok (.iconst 0, 1) := by decide +kernel
theorem dX12_isAround_56 : decode cX12_isAround 56 = .ok (.ireturn, 1) := by decide +kernel
theorem dX12_isAround_57 : decode cX12_isAround 57 = .ok (.iinc 4 1, 3) := by decide +kernel
theorem dX12_isAround_60 : decode cX12_isAround 60 = .ok (.goto (-38), 3) := by decide +kernel
theorem dX12_isAround_63 : decode cX12_isAround 63 = .ok (.iconst 1, 1) := by decide +kernel
theorem dX12_isAround_64 : decode cX12_isAround 64 = .ok (.ireturn, 1) := by decide +kernel
def K_X12_isAround_22 (G : xG) (l : Launch) (d : Nat) (P : Int → xMem → Prop) (v1 v2 v4 : Int) (μ : xMem) : Prop := RR G l d 0 0 false mX12_isAround (qI P) 22 [some (xr G 74), some (xi v1), some (xi v2), none, some (xi v4)] [] LAY μ 0 0
set_option maxRecDepth 20000 in
theorem E_X12_isAround {G : xG} {l : Launch} {d : Nat} {P : Int → xMem → Prop} {v1 v2 v3 : Int} {μ : xMem} (h : ((0 ≤ v1 ∧ v1 < 120) ∧ (iR (((μ 77 v1) - v2) - v3) ∧ iR (μ 74 44) ∧ ((((μ 77 v1) - v2) - v3) = (μ 74 44) → K_X12_isAround_22 G l (d + 1) P v1 v2 0 μ) ∧ ((((μ 77 v1) - v2) - v3) ≠ (μ 74 44) → P 0 μ)))) : CI G l (d + 1) mX12_isAround [xr G 74, xi v1, xi v2, xi v3] μ P := by
  refine CC.ofRR (ll := [some (xr G 74), some (xi v1), some (xi v2), some (xi v3), none]) (by decide +kernel) (Nat.le_of_ble_eq_true rfl) rfl (fun h => by cases h) ?_
  refine xr_aload_n dX12_isAround_0 rfl ?_
  refine xr_getR dX12_isAround_1 fl_X12_16 L_74 rfl ?_
  refine xr_iload_n dX12_isAround_4 rfl ?_
  obtain ⟨q1, h⟩ := h
  refine xr_iaload' (v := μ 77 v1) dX12_isAround_5 L_77 rfl (by decide) q1 rfl ?_
  refine xr_iload_n dX12_isAround_6 rfl ?_
  refine xr_isub dX12_isAround_7 ?_
  refine xr_iload_n dX12_isAround_8 rfl ?_
  refine xr_isub dX12_isAround_9 ?_
  refine xr_aload_n dX12_isAround_10 rfl ?_
  refine xr_getI' (v := μ 74 44) dX12_isAround_11 fl_X12_256 L_74 rfl rfl rfl ?_
  obtain ⟨q2, q3, hT4, hF5⟩ := h
  refine xr_icmp_eq (tgt := 19) dX12_isAround_14 (by decide) q2 q3 (fun c => ?_) (fun c => ?_)
  · have h := hT4 c
    refine xr_iconst dX12_isAround_19 ?_
    refine xr_istore' (ll' := [some (xr G 74), some (xi v1), some (xi v2), some (xi v3), some (xi 0)]) dX12_isAround_20 (by decide) rfl rfl ?_
    refine xr_wk (ll' := [some (xr G 74), some (xi v1), some (xi v2), none, some (xi 0)]) ⟨rfl, ⟨rfl, ⟨rfl, ⟨rfl, trivial⟩⟩⟩⟩ ?_
    exact h
  · have h := hF5 c
    refine xr_iconst dX12_isAround_17 ?_
    exact xr_zret dX12_isAround_18 rfl (x_nz (by decide)).1 ⟨rfl, _, rfl, x_01 (by decide), h⟩
set_option maxRecDepth 20000 in
theorem B_X12_isAround_22 {G : xG} {l : Launch} {d : Nat} {P : Int → xMem → Prop} {v1 v2 v4 : Int} {μ : xMem} (h : (iR v4 ∧ iR (μ 74 44) ∧ ((μ 74 44) ≤ v4 → P 1 μ) ∧ (v4 < (μ 74 44) → ((0 ≤ ((10 * v1) + v2) + v4 ∧ ((10 * v1) + v2) + v4 < 1200) ∧ ((0 ≤ v4 ∧ v4 < 10) ∧ (iR (μ 76 (((10 * v1) + v2) + v4)) ∧ iR (μ 103 v4) ∧ ((μ 76 (((10 * v1) + v2) + v4)) = (μ 103 v4) → K_X12_isAround_22 G l (d + 1) P v1 v2 (v4 + 1) μ) ∧ ((μ 76 (((10 * v1) + v2) + v4)) ≠ (μ 103 v4) → P 0 μ))))))) : K_X12_isAround_22 G l (d + 1) P v1 v2 v4 μ := by
  unfold K_X12_isAround_22
  refine xr_iload dX12_isAround_22 rfl ?_
  refine xr_aload_n dX12_isAround_24 rfl ?_
  refine xr_getI' (v := μ 74 44) dX12_isAround_25 fl_X12_256 L_74 rfl rfl rfl ?_
  obtain ⟨q1, q2, hT3, hF4⟩ := h
  refine xr_icmp_ge (tgt := 63) dX12_isAround_28 (by decide) q1 q2 (fun c => ?_) (fun c => ?_)
  · have h := hT3 c
    refine xr_iconst dX12_isAround_63 ?_
    exact xr_zret dX12_isAround_64 rfl (x_nz (by decide)).1 ⟨rfl, _, rfl, x_01 (by decide), h⟩
  · have h := hF4 (Int.not_le.mp c)
    refine xr_aload_n dX12_isAround_31 rfl ?_
    refine xr_getR dX12_isAround_32 fl_X12_13 L_74 rfl ?_
    refine xr_bipush dX12_isAround_35 (by decide) ?_
    refine xr_iload_n dX12_isAround_37 rfl ?_
    refine xr_imul dX12_isAround_38 ?_
    refine xr_iload_n dX12_isAround_39 rfl ?_
    refine xr_iadd dX12_isAround_40 ?_
    refine xr_iload dX12_isAround_41 rfl ?_
    refine xr_iadd dX12_isAround_43 ?_
    obtain ⟨q5, h⟩ := h
    refine xr_baload' (v := μ 76 (((10 * v1) + v2) + v4)) dX12_isAround_44 L_76 rfl (by decide) q5 rfl ?_
    refine xr_aload_n dX12_isAround_45 rfl ?_
    refine xr_getR dX12_isAround_46 fl_X12_104 L_74 rfl ?_
    refine xr_iload dX12_isAround_49 rfl ?_
    obtain ⟨q6, h⟩ := h
    refine xr_iaload' (v := μ 103 v4) dX12_isAround_51 L_103 rfl (by decide) q6 rfl ?_
    obtain ⟨q7, q8, hT9, hF10⟩ := h
    refine xr_icmp_eq (tgt := 57) dX12_isAround_52 (by decide) q7 q8 (fun c => ?_) (fun c => ?_)
    · have h := hT9 c
      refine xr_iinc' (ll' := [some (xr G 74), some (xi v1), some (xi v2), none, some (xi (v4 + 1))]) dX12_isAround_57 rfl (by decide) rfl rfl ?_
      refine xr_goto (tgt := 22) dX12_isAround_60 (by decide) ?_
      exact h
    · have h := hF10 c
      refine xr_iconst dX12_isAround_55 ?_
      exact xr_zret dX12_isAround_56 rfl (x_nz (by decide)).1 ⟨rfl, _, rfl, x_01 (by decide), h⟩
theorem dX12_meant_0 : decode cX12_meant 0 = .ok (.iconst 0, 1) := by decide +kernel
theorem dX12_meant_1 : decode cX12_meant 1 = .ok (.istore 4, 2) := by decide +kernel
theorem dX12_meant_3 : decode cX12_meant 3 = .ok (.iconst 0, 1) := by decide +kernel
theorem dX12_meant_4 : decode cX12_meant 4 = .ok (.istore 5, 2) := by decide +kernel
theorem dX12_meant_6 : decode cX12_meant 6 = .ok (.iload 5, 2) := by decide +kernel
theorem dX12_meant_8 : decode cX12_meant 8 = .ok (.aload_n 0, 1) := by decide +kernel
theorem dX12_meant_9 : decode cX12_meant 9 = .ok (.getfield 208, 3) := by decide +kernel
theorem dX12_meant_12 : decode cX12_meant 12 = .ok (.if_icmp .ge 45, 3) := by decide +kernel
theorem dX12_meant_15 : decode cX12_meant 15 = .ok (.iload 4, 2) := by decide +kernel
theorem dX12_meant_17 : decode cX12_meant 17 = .ok (.aload_n 0, 1) := by decide +kernel
theorem dX12_meant_18 : decode cX12_meant 18 = .ok (.getfield 59, 3) := by decide +kernel
theorem dX12_meant_21 : decode cX12_meant 21 = .ok (.bipush 120, 2) := by decide +kernel
theorem dX12_meant_23 : decode cX12_meant 23 = .ok (.iload_n 1, 1) := by decide +kernel
theorem dX12_meant_24 : decode cX12_meant 24 = .ok (.imul, 1) := by decide +kernel
theorem dX12_meant_25 : decode cX12_meant 25 = .ok (.iload 5, 2) := by decide +kernel
theorem dX12_meant_27 : decode cX12_meant 27 = .ok (.iadd, 1) := by decide +kernel
theorem dX12_meant_28 : decode cX12_meant 28 = .ok (.baload, 1) := by decide +kernel
theorem dX12_meant_29 : decode cX12_meant 29 = .ok (.ifCond .eq 18, 3) := by decide +kernel
theorem dX12_meant_32 : decode cX12_meant 32 = .ok (.aload_n 0, 1) := by decide +kernel
theorem dX12_meant_33 : decode cX12_meant 33 = .ok (.iload 5, 2) := by decide +kernel
theorem dX12_meant_35 : decode cX12_meant 35 = .ok (.iload_n 2, 1) := by decide +kernel
theorem dX12_meant_36 : decode cX12_meant 36 = .ok (.iload_n 3, 1) := by decide +kernel
theorem dX12_meant_37 : decode cX12_meant 37 = .ok (.invokevirtual 259, 3) := by decide +kernel
theorem dX12_meant_40 : decode cX12_meant 40 = .ok (.ifCond .eq 7, 3) := by decide +kernel
theorem dX12_meant_43 : decode cX12_meant 43 = .ok (.iconst 1, 1) := by decide +kernel
theorem dX12_meant_44 : decode cX12_meant 44 = .ok (.goto 4, 3) := by decide +kernel
theorem dX12_meant_47 : decode cX12_meant 47 = .ok (.iconst 0, 1) := by decide +kernel
theorem dX12_meant_48 : decode cX12_meant 48 = .ok (.iadd, 1) := by decide +kernel
theorem dX12_meant_49 : decode cX12_meant 49 = .ok (.istore 4, 2) := by decide +kernel
theorem dX12_meant_51 : decode cX12_meant 51 = .ok (.iinc 5 1, 3) := by decide +kernel
theorem dX12_meant_54 : decode cX12_meant 54 = .ok (.goto (-48), 3) := by decide +kernel
theorem dX12_meant_57 : decode cX12_meant 57 = .ok (.iload 4, 2) := by decide +kernel
theorem dX12_meant_59 : decode cX12_meant 59 = .ok (.ireturn, 1) := by decide +kernel
def K_X12_meant_6 (G : xG) (l : Launch) (d : Nat) (P : Int → xMem → Prop) (v1 v2 v3 v4 v5 : Int) (μ : xMem) : Prop := RR G l d 0 0 false mX12_meant (qI P) 6 [some (xr G 74), some (xi v1), some (xi v2), some (xi v3), some (xi v4), some (xi v5)] [] LAY μ 0 0
set_option maxRecDepth 20000 in
theorem E_X12_meant {G : xG} {l : Launch} {d : Nat} {P : Int → xMem → Prop} {v1 v2 v3 : Int} {μ : xMem} (h : K_X12_meant_6 G l (d + 1) P v1 v2 v3 0 0 μ) : CI G l (d + 1) mX12_meant [xr G 74, xi v1, xi v2, xi v3] μ P := by
  refine CC.ofRR (ll := [some (xr G 74), some (xi v1), some (xi v2), some (xi v3), none, none]) (by decide +kernel) (Nat.le_of_ble_eq_true rfl) rfl (fun h => by cases h) ?_
  refine xr_iconst dX12_meant_0 ?_
  refine xr_istore' (ll' := [some (xr G 74), some (xi v1), some (xi v2), some (xi v3), some (xi 0), none]) dX12_meant_1 (by decide) rfl rfl ?_
  refine xr_iconst dX12_meant_3 ?_
  refine xr_istore' (ll' := [some (xr G 74), some (xi v1), some (xi v2), some (xi v3), some (xi 0), some (xi 0)]) dX12_meant_4 (by decide) rfl rfl ?_
  exact h
set_option maxRecDepth 20000 in
theorem B_X12_meant_6 {G : xG} {l : Launch} {d : Nat} {P : Int → xMem → Prop} {v1 v2 v3 v4 v5 : Int} {μ : xMem} (h : (iR v5 ∧ iR (μ 74 20) ∧ ((μ 74 20) ≤ v5 → (iR v4 ∧ P v4 μ)) ∧ (v5 < (μ 74 20) → ((0 ≤ (120 * v1) + v5 ∧ (120 * v1) + v5 < 14400) ∧ (iR (μ 91 ((120 * v1) + v5)) ∧ ((μ 91 ((120 * v1) + v5)) = 0 → K_X12_meant_6 G l (d + 1) P v1 v2 v3 (v4 + 0) (v5 + 1) μ) ∧ ((μ 91 ((120 * v1) + v5)) ≠ 0 → CI G l d mX12_isAround [xr G 74, xi v5, xi v2, xi v3] μ (fun r10 m11 => ((r10 = 0 → K_X12_meant_6 G l (d + 1) P v1 v2 v3 (v4 + 0) (v5 + 1) m11) ∧ (r10 ≠ 0 → K_X12_meant_6 G l (d + 1) P v1 v2 v3 (v4 + 1) (v5 + 1) m11))))))))) : K_X12_meant_6 G l (d + 1) P v1 v2 v3 v4 v5 μ := by
  unfold K_X12_meant_6
  refine xr_iload dX12_meant_6 rfl ?_
  refine xr_aload_n dX12_meant_8 rfl ?_
  refine xr_getI' (v := μ 74 20) dX12_meant_9 fl_X12_208 L_74 rfl rfl rfl ?_
  obtain ⟨q1, q2, hT3, hF4⟩ := h
  refine xr_icmp_ge (tgt := 57) dX12_meant_12 (by decide) q1 q2 (fun c => ?_) (fun c => ?_)
  · have h := hT3 c
    refine xr_iload dX12_meant_57 rfl ?_
    obtain ⟨q5, h⟩ := h
    exact xr_iret dX12_meant_59 rfl ⟨rfl, _, rfl, q5, h⟩
  · have h := hF4 (Int.not_le.mp c)
    refine xr_iload dX12_meant_15 rfl ?_
    refine xr_aload_n dX12_meant_17 rfl ?_
    refine xr_getR dX12_meant_18 fl_X12_59 L_74 rfl ?_
    refine xr_bipush dX12_meant_21 (by decide) ?_
    refine xr_iload_n dX12_meant_23 rfl ?_
    refine xr_imul dX12_meant_24 ?_
    refine xr_iload dX12_meant_25 rfl ?_
    refine xr_iadd dX12_meant_27 ?_
    obtain ⟨q6, h⟩ := h
    refine xr_zaload' (v := μ 91 ((120 * v1) + v5)) dX12_meant_28 L_91 rfl (by decide) q6 rfl ?_
    obtain ⟨q7, hT8, hF9⟩ := h
    refine xr_if_eq (tgt := 47) dX12_meant_29 (by decide) q7  (fun c => ?_) (fun c => ?_)
    · have h := hT8 c
      refine xr_iconst dX12_meant_47 ?_
      refine xr_iadd dX12_meant_48 ?_
      refine xr_istore' (ll' := [some (xr G 74), some (xi v1), some (xi v2), some (xi v3), some (xi (v4 + 0)), some (xi v5)]) dX12_meant_49 (by decide) rfl rfl ?_
      refine xr_iinc' (ll' := [some (xr G 74), some (xi v1), some (xi v2), some (xi v3), some (xi (v4 + 0)), some (xi (v5 + 1))]) dX12_meant_51 rfl (by decide) rfl rfl ?_
      refine xr_goto (tgt := 6) dX12_meant_54 (by decide) ?_
      exact h
    · have h := hF9 c
      refine xr_aload_n dX12_meant_32 rfl ?_
      refine xr_iload dX12_meant_33 rfl ?_
      refine xr_iload_n dX12_meant_35 rfl ?_
      refine xr_iload_n dX12_meant_36 rfl ?_
      refine xr_cvI (As := [xi v5, xi v2, xi v3]) dX12_meant_37 mi_X12_isAround ml_X12_259 se_X12_isAround L_74 rfl rfl rfl (Nat.le_of_ble_eq_true rfl) h (fun r10 m11 hr10 h => ?_)
      obtain ⟨hT12, hF13⟩ := h
      refine xr_if_eq (tgt := 47) dX12_meant_40 (by decide) hr10  (fun c => ?_) (fun c => ?_)
      · have h := hT12 c
        refine xr_iconst dX12_meant_47 ?_
        refine xr_iadd dX12_meant_48 ?_
        refine xr_istore' (ll' := [some (xr G 74), some (xi v1), some (xi v2), some (xi v3), some (xi (v4 + 0)), some (xi v5)]) dX12_meant_49 (by decide) rfl rfl ?_
        refine xr_iinc' (ll' := [some (xr G 74), some (xi v1), some (xi v2), some (xi v3), some (xi (v4 + 0)), some (xi (v5 + 1))]) dX12_meant_51 rfl (by decide) rfl rfl ?_
        refine xr_goto (tgt := 6) dX12_meant_54 (by decide) ?_
        exact h
      · have h := hF13 c
        refine xr_iconst dX12_meant_43 ?_
        refine xr_goto (tgt := 48) dX12_meant_44 (by decide) ?_
        refine xr_iadd dX12_meant_48 ?_
        refine xr_istore' (ll' := [some (xr G 74), some (xi v1), some (xi v2), some (xi v3), some (xi (v4 + 1)), some (xi v5)]) dX12_meant_49 (by decide) rfl rfl ?_
        refine xr_iinc' (ll' := [some (xr G 74), some (xi v1), some (xi v2), some (xi v3), some (xi (v4 + 1)), some (xi (v5 + 1))]) dX12_meant_51 rfl (by decide) rfl rfl ?_
        refine xr_goto (tgt := 6) dX12_meant_54 (by decide) ?_
        exact h
theorem dX12_runAround_0 : decode cX12_runAround 0 = .ok (.aload_n 0, 1) := by decide +kernel
theorem dX12_runAround_1 : decode cX12_runAround 1 = .ok (.aload_n 0, 1) := by decide +kernel
theorem dX12_runAround_2 : decode cX12_runAround 2 = .ok (.getfield 253, 3) := by decide +kernel
theorem dX12_runAround_5 : decode cX12_runAround 5 = .ok (.putfield 256, 3) := by decide +kernel
theorem dX12_runAround_8 : decode cX12_runAround 8 = .ok (.iconst 0, 1) := by decide +kernel
theorem dX12_runAround_9 : decode cX12_runAround 9 = .ok (.istore_n 1, 1) := by decide +kernel
theorem dX12_runAround_10 : decode cX12_runAround 10 = .ok (.iload_n 1, 1) := by decide +kernel
theorem dX12_runAround_11 : decode cX12_runAround 11 = .ok (.aload_n 0, 1) := by decide +kernel
theorem dX12_runAround_12 : decode cX12_runAround 12 = .ok (.getfield 253, 3) := by decide +kernel
theorem dX12_runAround_15 : decode cX12_runAround 15 = .ok (.if_icmp .ge 21, 3) := by decide +kernel
theorem dX12_runAround_18 : decode cX12_runAround 18 = .ok (.aload_n 0, 1) := by decide +kernel
theorem dX12_runAround_19 : decode cX12_runAround 19 = .ok (.getfield 104, 3) := by decide +kernel
theorem dX12_runAround_22 : decode cX12_runAround 22 = .ok (.iload_n 1, 1) := by decide +kernel
theorem dX12_runAround_23 : decode cX12_runAround 23 = .ok (.aload_n 0, 1) := by decide +kernel
theorem dX12_runAround_24 : decode cX12_runAround 24 = .ok (.getfield 101, 3) := by decide +kernel
theorem dX12_runAround_27 : decode cX12_runAround 27 = .ok (.iload_n 1, 1) := by decide +kernel
theorem dX12_runAround_28 : decode cX12_runAround 28 = .ok (.iaload, 1) := by decide +kernel
theorem dX12_runAround_29 : decode cX12_runAround 29 = .ok (.iastore, 1) := by decide +kernel
theorem dX12_runAround_30 : decode cX12_runAround 30 = .ok (.iinc 1 1, 3) := by decide +kernel
theorem dX12_runAround_33 : decode cX12_runAround 33 = .ok (.goto (-23), 3) := by decide +kernel
theorem dX12_runAround_36 : decode cX12_runAround 36 = .ok (.return_, 1) := by decide +kernel
def K_X12_runAround_10 (G : xG) (l : Launch) (d : Nat) (P : xMem → Prop) (v1 : Int) (μ : xMem) : Prop := RR G l d 0 0 false mX12_runAround (qV P) 10 [some (xr G 74), some (xi v1)] [] LAY μ 0 0
set_option maxRecDepth 20000 in
theorem E_X12_runAround {G : xG} {l : Launch} {d : Nat} {P : xMem → Prop} {μ : xMem} (h : K_X12_runAround_10 G l (d + 1) P 0 (st2 μ 74 44 (μ 74 43))) : CV G l (d + 1) mX12_runAround [xr G 74] μ P := by
  refine CC.ofRR (ll := [some (xr G 74), none]) (by decide +kernel) (Nat.le_of_ble_eq_true rfl) rfl (fun h => by cases h) ?_
  refine xr_aload_n dX12_runAround_0 rfl ?_
  refine xr_aload_n dX12_runAround_1 rfl ?_
  refine xr_getI' (v := μ 74 43) dX12_runAround_2 fl_X12_253 L_74 rfl rfl rfl ?_
  refine xr_putI dX12_runAround_5 fp_X12_256 L_74 rfl rfl ⟨rfl, rfl⟩ ?_
  refine xr_iconst dX12_runAround_8 ?_
  refine xr_istore_n' (ll' := [some (xr G 74), some (xi 0)]) dX12_runAround_9 (by decide) rfl rfl ?_
  exact h
set_option maxRecDepth 20000 in
theorem B_X12_runAround_10 {G : xG} {l : Launch} {d : Nat} {P : xMem → Prop} {v1 : Int} {μ : xMem} (h : (iR v1 ∧ iR (μ 74 43) ∧ ((μ 74 43) ≤ v1 → P μ) ∧ (v1 < (μ 74 43) → ((0 ≤ v1 ∧ v1 < 10) ∧ K_X12_runAround_10 G l (d + 1) P (v1 + 1) (st2 μ 103 v1 (μ 102 v1)))))) : K_X12_runAround_10 G l (d + 1) P v1 μ := by
  unfold K_X12_runAround_10
  refine xr_iload_n dX12_runAround_10 rfl ?_
  refine xr_aload_n dX12_runAround_11 rfl ?_
  refine xr_getI' (v := μ 74 43) dX12_runAround_12 fl_X12_253 L_74 rfl rfl rfl ?_
  obtain ⟨q1, q2, hT3, hF4⟩ := h
  refine xr_icmp_ge (tgt := 36) dX12_runAround_15 (by decide) q1 q2 (fun c => ?_) (fun c => ?_)
  · have h := hT3 c
    exact xr_ret dX12_runAround_36 rfl ⟨rfl, rfl, h⟩
  · have h := hF4 (Int.not_le.mp c)
    refine xr_aload_n dX12_runAround_18 rfl ?_
    refine xr_getR dX12_runAround_19 fl_X12_104 L_74 rfl ?_
    refine xr_iload_n dX12_runAround_22 rfl ?_
    refine xr_aload_n dX12_runAround_23 rfl ?_
    refine xr_getR dX12_runAround_24 fl_X12_101 L_74 rfl ?_
    refine xr_iload_n dX12_runAround_27 rfl ?_
    obtain ⟨q5, h⟩ := h
    refine xr_iaload' (v := μ 102 v1) dX12_runAround_28 L_102 rfl (by decide) q5 rfl ?_
    refine xr_iastore dX12_runAround_29 L_103 rfl (by decide) q5 ?_
    refine xr_iinc' (ll' := [some (xr G 74), some (xi (v1 + 1))]) dX12_runAround_30 rfl (by decide) rfl rfl ?_
    refine xr_goto (tgt := 10) dX12_runAround_33 (by decide) ?_
    exact h
theorem dX12_takeRest_0 : decode cX12_takeRest 0 = .ok (.aload_n 0, 1) := by decide +kernel
theorem dX12_takeRest_1 : decode cX12_takeRest 1 = .ok (.iconst 0, 1) := by decide +kernel
theorem dX12_takeRest_2 : decode cX12_takeRest 2 = .ok (.putfield 262, 3) := by decide +kernel
theorem dX12_takeRest_5 : decode cX12_takeRest 5 = .ok (.iload_n 1, 1) := by decide +kernel
theorem dX12_takeRest_6 : decode cX12_takeRest 6 = .ok (.istore_n 3, 1) := by decide +kernel
theorem dX12_takeRest_7 : decode cX12_takeRest 7 = .ok (.iload_n 3, 1) := by decide +kernel
theorem dX12_takeRest_8 : decode cX12_takeRest 8 = .ok (.iload_n 2, 1) := by decide +kernel
theorem dX12_takeRest_9 : decode cX12_takeRest 9 = .ok (.if_icmp .gt 70, 3) := by decide +kernel
theorem dX12_takeRest_12 : decode cX12_takeRest 12 = .ok (.iconst 0, 1) := by decide +kernel
theorem dX12_takeRest_13 : decode cX12_takeRest 13 = .ok (.istore 4, 2) := by decide +kernel
theorem dX12_takeRest_15 : decode cX12_takeRest 15 = .ok (.iload 4, 2) := by decide +kernel
theorem dX12_takeRest_17 : decode cX12_takeRest 17 = .ok (.aload_n 0, 1) := by decide +kernel
theorem dX12_takeRest_18 : decode cX12_takeRest 18 = .ok (.getfield 16, 3) := by decide +kernel
theorem dX12_takeRest_21 : decode cX12_takeRest 21 = .ok (.aload_n 0, 1) := by decide +kernel
theorem dX12_takeRest_22 : decode cX12_takeRest 22 = .ok (.getfield 95, 3) := by decide +kernel
theorem dX12_takeRest_25 : decode cX12_takeRest 25 = .ok (.iload_n 3, 1) := by decide +kernel
theorem dX12_takeRest_26 : decode cX12_takeRest 26 = .ok (.iaload, 1) := by decide +kernel
theorem dX12_takeRest_27 : decode cX12_takeRest 27 = .ok (.iaload, 1) := by decide +kernel
theorem dX12_takeRest_28 : decode cX12_takeRest 28 = .ok (.if_icmp .ge 45, 3) := by decide +kernel
theorem dX12_takeRest_31 : decode cX12_takeRest 31 = .ok (.aload_n 0, 1) := by decide +kernel
theorem dX12_takeRest_32 : decode cX12_takeRest 32 = .ok (.getfield 107, 3) := by decide +kernel
theorem dX12_takeRest_35 : decode cX12_takeRest 35 = .ok (.aload_n 0, 1) := by decide +kernel
theorem dX12_takeRest_36 : decode cX12_takeRest 36 = .ok (.getfield 262, 3) := by decide +kernel
theorem dX12_takeRest_39 : decode cX12_takeRest 39 = .ok (.aload_n 0, 1) := by decide +kernel
theorem dX12_takeRest_40 : decode cX12_takeRest 40 = .ok (.getfield 13, 3) := by decide +kernel
theorem dX12_takeRest_43 : decode cX12_takeRest 43 = .ok (.bipush 10, 2) := by decide +kernel
theorem dX12_takeRest_45 : decode cX12_takeRest 45 = .ok (.aload_n 0, 1) := by decide +kernel
theorem dX12_takeRest_46 : decode cX12_takeRest 46 = .ok (.getfield 95, 3) := by decide +kernel
theorem dX12_takeRest_49 : decode cX12_takeRest 49 = .ok (.iload_n 3, 1) := by decide +kernel
theorem dX12_takeRest_50 : decode cX12_takeRest 50 = .ok (.iaload, 1) := by decide +kernel
theorem dX12_takeRest_51 : decode cX12_takeRest 51 = .ok (.imul, 1) := by decide +kernel
theorem dX12_takeRest_52 : decode cX12_takeRest 52 = .ok (.iload 4, 2) := by decide +kernel
theorem dX12_takeRest_54 : decode cX12_takeRest 54 = .ok (.iadd, 1) := by decide +kernel
theorem dX12_takeRest_55 : decode cX12_takeRest 55 = .ok (.baload, 1) := by decide +kernel
theorem dX12_takeRest_56 : decode cX12_takeRest 56 = .ok (.iastore, 1) := by decide +kernel
theorem dX12_takeRest_57 : decode cX12_takeRest 57 = .ok (.aload_n 0, 1) := by decide +kernel
theorem dX12_takeRest_58 : decode cX12_takeRest 58 = .ok (.dup, 1) := by decide +kernel
theorem dX12_takeRest_59 : decode cX12_takeRest 59 = .ok (.getfield 262, 3) := by decide +kernel
theorem dX12_takeRest_62 : decode cX12_takeRest 62 = .ok (.iconst 1, 1) := by decide +kernel
theorem dX12_takeRest_63 : decode cX12_takeRest 63 = .ok (.iadd, 1) := by decide +kernel
theorem dX12_takeRest_64 : decode cX12_takeRest 64 = .ok (.putfield 262, 3) := by decide +kernel
theorem dX12_takeRest_67 : decode cX12_takeRest 67 = .ok (.iinc 4 1, 3) := by decide +kernel
theorem dX12_takeRest_70 : decode cX12_takeRest 70 = .ok (.goto (-55), 3) := by decide +kernel
theorem dX12_takeRest_73 : decode cX12_takeRest 73 = .ok (.iinc 3 1, 3) := by decide +kernel
theorem dX12_takeRest_76 : decode cX12_takeRest 76 = .ok (.goto (-69), 3) := by decide +kernel
theorem dX12_takeRest_79 : decode cX12_takeRest 79 = .ok (.return_, 1) := by decide +kernel
def K_X12_takeRest_7 (G : xG) (l : Launch) (d : Nat) (P : xMem → Prop) (v2 v3 : Int) (μ : xMem) : Prop := RR G l d 0 0 false mX12_takeRest (qV P) 7 [some (xr G 74), none, some (xi v2), some (xi v3), none] [] LAY μ 0 0
def K_X12_takeRest_15 (G : xG) (l : Launch) (d : Nat) (P : xMem → Prop) (v2 v3 v4 : Int) (μ : xMem) : Prop := RR G l d 0 0 false mX12_takeRest (qV P) 15 [some (xr G 74), none, some (xi v2), some (xi v3), some (xi v4)] [] LAY μ 0 0
set_option maxRecDepth 20000 in
theorem E_X12_takeRest {G : xG} {l : Launch} {d : Nat} {P : xMem → Prop} {v1 v2 : Int} {μ : xMem} (h : K_X12_takeRest_7 G l (d + 1) P v2 v1 (st2 μ 74 45 0)) : CV G l (d + 1) mX12_takeRest [xr G 74, xi v1, xi v2] μ P := by
  refine CC.ofRR (ll := [some (xr G 74), some (xi v1), some (xi v2), none, none]) (by decide +kernel) (Nat.le_of_ble_eq_true rfl) rfl (fun h => by cases h) ?_
  refine xr_aload_n dX12_takeRest_0 rfl ?_
  refine xr_iconst dX12_takeRest_1 ?_
  refine xr_putI dX12_takeRest_2 fp_X12_262 L_74 rfl rfl ⟨rfl, rfl⟩ ?_
  refine xr_iload_n dX12_takeRest_5 rfl ?_
  refine xr_istore_n' (ll' := [some (xr G 74), some (xi v1), some (xi v2), some (xi v1), none]) dX12_takeRest_6 (by decide) rfl rfl ?_
  refine xr_wk (ll' := [some (xr G 74), none, some (xi v2), some (xi v1), none]) ⟨rfl, ⟨rfl, ⟨rfl, trivial⟩⟩⟩ ?_
  exact h
set_option maxRecDepth 20000 in
theorem B_X12_takeRest_7 {G : xG} {l : Launch} {d : Nat} {P : xMem → Prop} {v2 v3 : Int} {μ : xMem} (h : (iR v3 ∧ iR v2 ∧ (v2 < v3 → P μ) ∧ (v3 ≤ v2 → K_X12_takeRest_15 G l (d + 1) P v2 v3 0 μ))) : K_X12_takeRest_7 G l (d + 1) P v2 v3 μ := by
  unfold K_X12_takeRest_7
  refine xr_iload_n dX12_takeRest_7 rfl ?_
  refine xr_iload_n dX12_takeRest_8 rfl ?_
  obtain ⟨q1, q2, hT3, hF4⟩ := h
  refine xr_icmp_gt (tgt := 79) dX12_takeRest_9 (by decide) q1 q2 (fun c => ?_) (fun c => ?_)
  · have h := hT3 c
    exact xr_ret dX12_takeRest_79 rfl ⟨rfl, rfl, h⟩
  · have h := hF4 (Int.not_lt.mp c)
    refine xr_iconst dX12_takeRest_12 ?_
    refine xr_istore' (ll' := [some (xr G 74), none, some (xi v2), some (xi v3), some (xi 0)]) dX12_takeRest_13 (by decide) rfl rfl ?_
    exact h
set_option maxRecDepth 20000 in
theorem B_X12_takeRest_15 {G : xG} {l : Launch} {d : Nat} {P : xMem → Prop} {v2 v3 v4 : Int} {μ : xMem} (h : ((0 ≤ v3 ∧ v3 < 8) ∧ ((0 ≤ μ 100 v3 ∧ μ 100 v3 < 120) ∧ (iR v4 ∧ iR (μ 77 (μ 100 v3)) ∧ ((μ 77 (μ 100 v3)) ≤ v4 → K_X12_takeRest_7 G l (d + 1) P v2 (v3 + 1) μ) ∧ (v4 < (μ 77 (μ 100 v3)) → ((0 ≤ (10 * (μ 100 v3)) + v4 ∧ (10 * (μ 100 v3)) + v4 < 1200) ∧ ((0 ≤ μ 74 45 ∧ μ 74 45 < 80) ∧ K_X12_takeRest_15 G l (d + 1) P v2 v3 (v4 + 1) (st2 (st2 μ 104 (μ 74 45) (μ 76 ((10 * (μ 100 v3)) + v4))) 74 45 ((μ 74 45) + 1))))))))) : K_X12_takeRest_15 G l (d + 1) P v2 v3 v4 μ := by
  unfold K_X12_takeRest_15
  refine xr_iload dX12_takeRest_15 rfl ?_
  refine xr_aload_n dX12_takeRest_17 rfl ?_
  refine xr_getR dX12_takeRest_18 fl_X12_16 L_74 rfl ?_
  refine xr_aload_n dX12_takeRest_21 rfl ?_
  refine xr_getR dX12_takeRest_22 fl_X12_95 L_74 rfl ?_
  refine xr_iload_n dX12_takeRest_25 rfl ?_
  obtain ⟨q1, h⟩ := h
  refine xr_iaload' (v := μ 100 v3) dX12_takeRest_26 L_100 rfl (by decide) q1 rfl ?_
  obtain ⟨q2, h⟩ := h
  refine xr_iaload' (v := μ 77 (μ 100 v3)) dX12_takeRest_27 L_77 rfl (by decide) q2 rfl ?_
  obtain ⟨q3, q4, hT5, hF6⟩ := h
  refine xr_icmp_ge (tgt := 73) dX12_takeRest_28 (by decide) q3 q4 (fun c => ?_) (fun c => ?_)
  · have h := hT5 c
    refine xr_iinc' (ll' := [some (xr G 74), none, some (xi v2), some (xi (v3 + 1)), some (xi v4)]) dX12_takeRest_73 rfl (by decide) rfl rfl ?_
    refine xr_goto (tgt := 7) dX12_takeRest_76 (by decide) ?_
    refine xr_wk (ll' := [some (xr G 74), none, some (xi v2), some (xi (v3 + 1)), none]) ⟨rfl, ⟨rfl, ⟨rfl, trivial⟩⟩⟩ ?_
    exact h
  · have h := hF6 (Int.not_le.mp c)
    refine xr_aload_n dX12_takeRest_31 rfl ?_
    refine xr_getR dX12_takeRest_32 fl_X12_107 L_74 rfl ?_
    refine xr_aload_n dX12_takeRest_35 rfl ?_
    refine xr_getI' (v := μ 74 45) dX12_takeRest_36 fl_X12_262 L_74 rfl rfl rfl ?_
    refine xr_aload_n dX12_takeRest_39 rfl ?_
    refine xr_getR dX12_takeRest_40 fl_X12_13 L_74 rfl ?_
    refine xr_bipush dX12_takeRest_43 (by decide) ?_
    refine xr_aload_n dX12_takeRest_45 rfl ?_
    refine xr_getR dX12_takeRest_46 fl_X12_95 L_74 rfl ?_
    refine xr_iload_n dX12_takeRest_49 rfl ?_
    refine xr_iaload' (v := μ 100 v3) dX12_takeRest_50 L_100 rfl (by decide) q1 rfl ?_
    refine xr_imul dX12_takeRest_51 ?_
    refine xr_iload dX12_takeRest_52 rfl ?_
    refine xr_iadd dX12_takeRest_54 ?_
    obtain ⟨q7, h⟩ := h
    refine xr_baload' (v := μ 76 ((10 * (μ 100 v3)) + v4)) dX12_takeRest_55 L_76 rfl (by decide) q7 rfl ?_
    obtain ⟨q8, h⟩ := h
    refine xr_iastore dX12_takeRest_56 L_104 rfl (by decide) q8 ?_
    refine xr_aload_n dX12_takeRest_57 rfl ?_
    refine xr_dup dX12_takeRest_58 rfl ?_
    refine xr_getI' (v := μ 74 45) dX12_takeRest_59 fl_X12_262 L_74 rfl rfl (by simp [st2, cpy]) ?_
    refine xr_iconst dX12_takeRest_62 ?_
    refine xr_iadd dX12_takeRest_63 ?_
    refine xr_putI dX12_takeRest_64 fp_X12_262 L_74 rfl rfl ⟨rfl, rfl⟩ ?_
    refine xr_iinc' (ll' := [some (xr G 74), none, some (xi v2), some (xi v3), some (xi (v4 + 1))]) dX12_takeRest_67 rfl (by decide) rfl rfl ?_
    refine xr_goto (tgt := 15) dX12_takeRest_70 (by decide) ?_
    exact h
theorem dX12_isShuffled_0 : decode cX12_isShuffled 0 = .ok (.aload_n 0, 1) := by decide +kernel
theorem dX12_isShuffled_1 : decode cX12_isShuffled 1 = .ok (.iload_n 1, 1) := by decide +kernel
theorem dX12_isShuffled_2 : decode cX12_isShuffled 2 = .ok (.iload_n 2, 1) := by decide +kernel
theorem dX12_isShuffled_3 : decode cX12_isShuffled 3 = .ok (.invokevirtual 265, 3) := by decide +kernel
theorem dX12_isShuffled_6 : decode cX12_isShuffled 6 = .ok (.aload_n 0, 1) := by decide +kernel
theorem dX12_isShuffled_7 : decode cX12_isShuffled 7 = .ok (.getfield 262, 3) := by decide +kernel
theorem dX12_isShuffled_10 : decode cX12_isShuffled 10 = .ok (.aload_n 0, 1) := by decide +kernel
theorem dX12_isShuffled_11 : decode cX12_isShuffled 11 = .ok (.getfield 253, 3) := by decide +kernel
theorem dX12_isShuffled_14 : decode cX12_isShuffled 14 = .ok (.if_icmp .eq 5, 3) := by decide +kernel
theorem dX12_isShuffled_17 : decode cX12_isShuffled 17 = .ok (.iconst 0, 1) := by decide +kernel
theorem dX12_isShuffled_18 : decode cX12_isShuffled 18 = .ok (.ireturn, 1) := by decide +kernel
theorem dX12_isShuffled_19 : decode cX12_isShuffled 19 = .ok (.iconst 1, 1) := by decide +kernel
theorem dX12_isShuffled_20 : decode cX12_isShuffled 20 = .ok (.istore_n 3, 1) := by decide +kernel
theorem dX12_isShuffled_21 : decode cX12_isShuffled 21 = .ok (.bipush 97, 2) := by decide +kernel
theorem dX12_isShuffled_23 : decode cX12_isShuffled 23 = .ok (.istore 4, 2) := by decide +kernel
theorem dX12_isShuffled_25 : decode cX12_isShuffled 25 = .ok (.iload 4, 2) := by decide +kernel
theorem dX12_isShuffled_27 : decode cX12_isShuffled 27 = .ok (.bipush 122, 2) := by decide +kernel
theorem dX12_isShuffled_29 : decode cX12_isShuffled 29 = .ok (.if_icmp .gt 77, 3) := by decide +kernel
theorem dX12_isShuffled_32 : decode cX12_isShuffled 32 = .ok (.iconst 0, 1) := by decide +kernel
theorem dX12_isShuffled_33 : decode cX12_isShuffled 33 = .ok (.istore 5, 2) := by decide +kernel
theorem dX12_isShuffled_35 : decode cX12_isShuffled 35 = .ok (.iconst 0, 1) := by decide +kernel
theorem dX12_isShuffled_36 : decode cX12_isShuffled 36 = .ok (.istore 6, 2) := by decide +kernel
theorem dX12_isShuffled_38 : decode cX12_isShuffled 38 = .ok (.iload 6, 2) := by decide +kernel
theorem dX12_isShuffled_40 : decode cX12_isShuffled 40 = .ok (.aload_n 0, 1) := by decide +kernel
theorem dX12_isShuffled_41 : decode cX12_isShuffled 41 = .ok (.getfield 253, 3) := by decide +kernel
theorem dX12_isShuffled_44 : decode cX12_isShuffled 44 = .ok (.if_icmp .ge 49, 3) := by decide +kernel
theorem dX12_isShuffled_47 : decode cX12_isShuffled 47 = .ok (.iload 5, 2) := by decide +kernel
theorem dX12_isShuffled_49 : decode cX12_isShuffled 49 = .ok (.aload_n 0, 1) := by decide +kernel
theorem dX12_isShuffled_50 : decode cX12_isShuffled 50 = .ok (.getfield 101, 3) := by decide +kernel
theorem dX12_isShuffled_53 : decode cX12_isShuffled 53 = .ok (.iload 6, 2) := by decide +kernel
theorem dX12_isShuffled_55 : decode cX12_isShuffled 55 = .ok (.iaload, 1) := by decide +kernel
theorem dX12_isShuffled_56 : decode cX12_isShuffled 56 = .ok (.iload 4, 2) := by decide +kernel
theorem dX12_isShuffled_58 : decode cX12_isShuffled 58 = .ok (.if_icmp .ne 7, 3) := by decide +kernel
theorem dX12_isShuffled_61 : decode cX12_isShuffled 61 = .ok (.iconst 1, 1) := by decide +kernel
theorem dX12_isShuffled_62 : decode cX12_isShuffled 62 = .ok (.goto 4, 3) := by decide +kernel
theorem dX12_isShuffled_65 : decode cX12_isShuffled 65 = .ok (.iconst 0, 1) := by decide +kernel
theorem dX12_isShuffled_66 : decode cX12_isShuffled 66 = .ok (.aload_n 0, 1) := by decide +kernel
theorem dX12_isShuffled_67 : decode cX12_isShuffled 67 = .ok (.getfield 107, 3) := by decide +kernel
theorem dX12_isShuffled_70 : decode cX12_isShuffled 70 = .ok (.iload 6, 2) := by decide +kernel
theorem dX12_isShuffled_72 : decode cX12_isShuffled 72 = .ok (.iaload, 1) := by decide +kernel
theorem dX12_isShuffled_73 : decode cX12_isShuffled 73 = .ok (.iload 4, 2) := by decide +kernel
theorem dX12_isShuffled_75 : decode cX12_isShuffled 75 = .ok (.if_icmp .ne 7, 3) := by decide +kernel
theorem dX12_isShuffled_78 : decode cX12_isShuffled 78 = .ok (.iconst 1, 1) := by decide +kernel
theorem dX12_isShuffled_79 : decode cX12_isShuffled 79 = .ok (.goto 4, 3) := by decide +kernel
theorem dX12_isShuffled_82 : decode cX12_isShuffled 82 = .ok (.iconst 0, 1) := by decide +kernel
theorem dX12_isShuffled_83 : decode cX12_isShuffled 83 = .ok (.isub, 1) := by decide +kernel
theorem dX12_isShuffled_84 : decode cX12_isShuffled 84 = .ok (.iadd, 1) := by decide +kernel
theorem dX12_isShuffled_85 : decode cX12_isShuffled 85 = .ok (.istore 5, 2) := by decide +kernel
theorem dX12_isShuffled_87 : decode cX12_isShuffled 87 = .ok (.iinc 6 1, 3) := by decide +kernel
theorem dX12_isShuffled_90 : decode cX12_isShuffled 90 = .ok (.goto (-52), 3) := by decide +kernel
theorem dX12_isShuffled_93 : decode cX12_isShuffled 93 = .ok (.iload 5, 2) := by decide +kernel
theorem dX12_isShuffled_95 : decode cX12_isShuffled 95 = .ok (.ifCond .eq 5, 3) := by decide +kernel
theorem dX12_isShuffled_98 : decode cX12_isShuffled 98 = .ok (.iconst 0, 1) := by decide +kernel
theorem dX12_isShuffled_99 : decode cX12_isShuffled 99 = .ok (.ireturn, 1) := by decide +kernel
theorem dX12_isShuffled_100 : decode cX12_isShuffled 100 = .ok (.iinc 4 1, 3) := by decide +kernel
theorem dX12_isShuffled_103 : decode cX12_isShuffled 103 = .ok (.goto (-78), 3) := by decide +kernel
theorem dX12_isShuffled_106 : decode cX12_isShuffled 106 = .ok (.iconst 0, 1) := by decide +kernel
theorem dX12_isShuffled_107 : decode cX12_isShuffled 107 = .ok (.istore 4, 2) := by decide +kernel
theorem dX12_isShuffled_109 : decode cX12_isShuffled 109 = .ok (.iload 4, 2) := by decide +kernel
theorem dX12_isShuffled_111 : decode cX12_isShuffled 111 = .ok (.aload_n 0, 1) := by decide +kernel
theorem dX12_isShuffled_112 : decode cX12_isShuffled 112 = .ok (.getfield 253, 3) := by decide +kernel
theorem dX12_isShuffled_115 : decode cX12_isShuffled 115 = .ok (.if_icmp .ge 36, 3) := by decide +kernel
theorem dX12_isShuffled_118 : decode cX12_isShuffled 118 = .ok (.iload_n 3, 1) := by decide +kernel
theorem dX12_isShuffled_119 : decode cX12_isShuffled 119 = .ok (.ifCond .eq 24, 3) := by decide +kernel
theorem dX12_isShuffled_122 : decode cX12_isShuffled 122 = .ok (.aload_n 0, 1) := by decide +kernel
theorem dX12_isShuffled_123 : decode cX12_isShuffled 123 = .ok (.getfield 101, 3) := by decide +kernel
theorem dX12_isShuffled_126 : decode cX12_isShuffled 126 = .ok (.iload 4, 2) := by decide +kernel
theorem dX12_isShuffled_128 : decode cX12_isShuffled 128 = .ok (.iaload, 1) := by decide +kernel
theorem dX12_isShuffled_129 : decode cX12_isShuffled 129 = .ok (.aload_n 0, 1) := by decide +kernel
theorem dX12_isShuffled_130 : decode cX12_isShuffled 130 = .ok (.getfield 107, 3) := by decide +kernel
theorem dX12_isShuffled_133 : decode cX12_isShuffled 133 = .ok (.iload 4, 2) := by decide +kernel
theorem dX12_isShuffled_135 : decode cX12_isShuffled 135 = .ok (.iaload, 1) := by decide +kernel
theorem dX12_isShuffled_136 : decode cX12_isShuffled 136 = .ok (.if_icmp .ne 7, 3) := by decide +kernel
theorem dX12_isShuffled_139 : decode cX12_isShuffled 139 = .ok (.iconst 1, 1) := by decide +kernel
theorem dX12_isShuffled_140 : decode cX12_isShuffled 140 = .ok (.goto 4, 3) := by decide +kernel
theorem dX12_isShuffled_143 : decode cX12_isShuffled 143 = .ok (.iconst 0, 1) := by decide +kernel
theorem dX12_isShuffled_144 : decode cX12_isShuffled 144 = .ok (.istore_n 3, 1) := by decide +kernel
theorem dX12_isShuffled_145 : decode cX12_isShuffled 145 = .ok (.iinc 4 1, 3) := by decide +kernel
theorem dX12_isShuffled_148 : decode cX12_isShuffled 148 = .ok (.goto (-39), 3) := by decide +kernel
theorem dX12_isShuffled_151 : decode cX12_isShuffled 151 = .ok (.iload_n 3, 1) := by decide +kernel
theorem dX12_isShuffled_152 : decode cX12_isShuffled 152 = .ok (.ifCond .ne 7, 3) := by decide +kernel
theorem dX12_isShuffled_155 : decode cX12_isShuffled 155 = .ok (.iconst 1, 1) := by decide +kernel
theorem dX12_isShuffled_156 : decode cX12_isShuffled 156 = .ok (.goto 4, 3) := by decide +kernel
theorem dX12_isShuffled_159 : decode cX12_isShuffled 159 = .ok (.iconst 0, 1) := by decide +kernel
theorem dX12_isShuffled_160 : decode cX12_isShuffled 160 = .ok (.ireturn, 1) := by decide +kernel
def K_X12_isShuffled_25 (G : xG) (l : Launch) (d : Nat) (P : Int → xMem → Prop) (v3 v4 : Int) (μ : xMem) : Prop := RR G l d 0 0 false mX12_isShuffled (qI P) 25 [some (xr G 74), none, none, some (xi v3), some (xi v4), none, none] [] LAY μ 0 0
def K_X12_isShuffled_109 (G : xG) (l : Launch) (d : Nat) (P : Int → xMem → Prop) (v3 v4 : Int) (μ : xMem) : Prop := RR G l d 0 0 false mX12_isShuffled (qI P) 109 [some (xr G 74), none, none, some (xi v3), some (xi v4), none, none] [] LAY μ 0 0
def K_X12_isShuffled_38 (G : xG) (l : Launch) (d : Nat) (P : Int → xMem → Prop) (v3 v4 v5 v6 : Int) (μ : xMem) : Prop := RR G l d 0 0 false mX12_isShuffled (qI P) 38 [some (xr G 74), none, none, some (xi v3), some (xi v4), some (xi v5), some (xi v6)] [] LAY μ 0 0
def K_X12_isShuffled_66 (G : xG) (l : Launch) (d : Nat) (P : Int → xMem → Prop) (v3 v4 v6 s0 s1 : Int) (μ : xMem) : Prop := RR G l d 0 0 false mX12_isShuffled (qI P) 66 [some (xr G 74), none, none, some (xi v3), some (xi v4), none, some (xi v6)] [xi s1, xi s0] LAY μ 0 0
set_option maxRecDepth 20000 in
theorem E_X12_isShuffled {G : xG} {l : Launch} {d : Nat} {P : Int → xMem → Prop} {v1 v2 : Int} {μ : xMem} (h : CV G l d mX12_takeRest [xr G 74, xi v1, xi v2] μ (fun m2 => (iR (m2 74 45) ∧ iR (m2 74 43) ∧ ((m2 74 45) = (m2 74 43) → K_X12_isShuffled_25 G l (d + 1) P 1 97 m2) ∧ ((m2 74 45) ≠ (m2 74 43) → P 0 m2)))) : CI G l (d + 1) mX12_isShuffled [xr G 74, xi v1, xi v2] μ P := by
  refine CC.ofRR (ll := [some (xr G 74), some (xi v1), some (xi v2), none, none, none, none]) (by decide +kernel) (Nat.le_of_ble_eq_true rfl) rfl (fun h => by cases h) ?_
  refine xr_aload_n dX12_isShuffled_0 rfl ?_
  refine xr_iload_n dX12_isShuffled_1 rfl ?_
  refine xr_iload_n dX12_isShuffled_2 rfl ?_
  refine xr_cvV (As := [xi v1, xi v2]) dX12_isShuffled_3 mi_X12_takeRest ml_X12_265 se_X12_takeRest L_74 rfl rfl rfl (Nat.le_of_ble_eq_true rfl) h (fun m2 h => ?_)
  refine xr_aload_n dX12_isShuffled_6 rfl ?_
  refine xr_getI' (v := m2 74 45) dX12_isShuffled_7 fl_X12_262 L_74 rfl rfl rfl ?_
  refine xr_aload_n dX12_isShuffled_10 rfl ?_
  refine xr_getI' (v := m2 74 43) dX12_isShuffled_11 fl_X12_253 L_74 rfl rfl rfl ?_
  obtain ⟨q3, q4, hT5, hF6⟩ := h
  refine xr_icmp_eq (tgt := 19) dX12_isShuffled_14 (by decide) q3 q4 (fun c => ?_) (fun c => ?_)
  · have h := hT5 c
    refine xr_iconst dX12_isShuffled_19 ?_
    refine xr_istore_n' (ll' := [some (xr G 74), some (xi v1), some (xi v2), some (xi 1), none, none, none]) dX12_isShuffled_20 (by decide) rfl rfl ?_
    refine xr_bipush dX12_isShuffled_21 (by decide) ?_
    refine xr_istore' (ll' := [some (xr G 74), some (xi v1), some (xi v2), some (xi 1), some (xi 97), none, none]) dX12_isShuffled_23 (by decide) rfl rfl ?_
    refine xr_wk (ll' := [some (xr G 74), none, none, some (xi 1), some (xi 97), none, none]) ⟨rfl, ⟨rfl, ⟨rfl, trivial⟩⟩⟩ ?_
    exact h
  · have h := hF6 c
    refine xr_iconst dX12_isShuffled_17 ?_
    exact xr_zret dX12_isShuffled_18 rfl (x_nz (by decide)).1 ⟨rfl, _, rfl, x_01 (by decide), h⟩
set_option maxRecDepth 20000 in
theorem B_X12_isShuffled_25 {G : xG} {l : Launch} {d : Nat} {P : Int → xMem → Prop} {v3 v4 : Int} {μ : xMem} (h : (iR v4 ∧ (122 < v4 → K_X12_isShuffled_109 G l (d + 1) P v3 0 μ) ∧ (v4 ≤ 122 → K_X12_isShuffled_38 G l (d + 1) P v3 v4 0 0 μ))) : K_X12_isShuffled_25 G l (d + 1) P v3 v4 μ := by
  unfold K_X12_isShuffled_25
  refine xr_iload dX12_isShuffled_25 rfl ?_
  refine xr_bipush dX12_isShuffled_27 (by decide) ?_
  obtain ⟨q1, hT2, hF3⟩ := h
  refine xr_icmp_gt (tgt := 106) dX12_isShuffled_29 (by decide) q1 (by decide) (fun c => ?_) (fun c => ?_)
  · have h := hT2 c
    refine xr_iconst dX12_isShuffled_106 ?_
    refine xr_istore' (ll' := [some (xr G 74), none, none, some (xi v3), some (xi 0), none, none]) dX12_isShuffled_107 (by decide) rfl rfl ?_
    exact h
  · have h := hF3 (Int.not_lt.mp c)
    refine xr_iconst dX12_isShuffled_32 ?_
    refine xr_istore' (ll' := [some (xr G 74), none, none, some (xi v3), some (xi v4), some (xi 0), none]) dX12_isShuffled_33 (by decide) rfl rfl ?_
    refine xr_iconst dX12_isShuffled_35 ?_
    refine xr_istore' (ll' := [some (xr G 74), none, none, some (xi v3), some (xi v4), some (xi 0), some (xi 0)]) dX12_isShuffled_36 (by decide) rfl rfl ?_
    exact h
set_option maxRecDepth 20000 in
theorem B_X12_isShuffled_109 {G : xG} {l : Launch} {d : Nat} {P : Int → xMem → Prop} {v3 v4 : Int} {μ : xMem} (h : (iR v4 ∧ iR (μ 74 43) ∧ ((μ 74 43) ≤ v4 → (iR v3 ∧ (v3 ≠ 0 → P 0 μ) ∧ (v3 = 0 → P 1 μ))) ∧ (v4 < (μ 74 43) → (iR v3 ∧ (v3 = 0 → K_X12_isShuffled_109 G l (d + 1) P 0 (v4 + 1) μ) ∧ (v3 ≠ 0 → ((0 ≤ v4 ∧ v4 < 10) ∧ ((0 ≤ v4 ∧ v4 < 80) ∧ (iR (μ 102 v4) ∧ iR (μ 104 v4) ∧ ((μ 102 v4) ≠ (μ 104 v4) → K_X12_isShuffled_109 G l (d + 1) P 0 (v4 + 1) μ) ∧ ((μ 102 v4) = (μ 104 v4) → K_X12_isShuffled_109 G l (d + 1) P 1 (v4 + 1) μ))))))))) : K_X12_isShuffled_109 G l (d + 1) P v3 v4 μ := by
  unfold K_X12_isShuffled_109
  refine xr_iload dX12_isShuffled_109 rfl ?_
  refine xr_aload_n dX12_isShuffled_111 rfl ?_
  refine xr_getI' (v := μ 74 43) dX12_isShuffled_112 fl_X12_253 L_74 rfl rfl rfl ?_
  obtain ⟨q1, q2, hT3, hF4⟩ := h
  refine xr_icmp_ge (tgt := 151) dX12_isShuffled_115 (by decide) q1 q2 (fun c => ?_) (fun c => ?_)
  · have h := hT3 c
    refine xr_iload_n dX12_isShuffled_151 rfl ?_
    obtain ⟨q5, hT6, hF7⟩ := h
    refine xr_if_ne (tgt := 159) dX12_isShuffled_152 (by decide) q5  (fun c => ?_) (fun c => ?_)
    · have h := hT6 c
      refine xr_iconst dX12_isShuffled_159 ?_
      exact xr_zret dX12_isShuffled_160 rfl (x_nz (by decide)).1 ⟨rfl, _, rfl, x_01 (by decide), h⟩
    · have h := hF7 c
      refine xr_iconst dX12_isShuffled_155 ?_
      refine xr_goto (tgt := 160) dX12_isShuffled_156 (by decide) ?_
      exact xr_zret dX12_isShuffled_160 rfl (x_nz (by decide)).1 ⟨rfl, _, rfl, x_01 (by decide), h⟩
  · have h := hF4 (Int.not_le.mp c)
    refine xr_iload_n dX12_isShuffled_118 rfl ?_
    obtain ⟨q8, hT9, hF10⟩ := h
    refine xr_if_eq (tgt := 143) dX12_isShuffled_119 (by decide) q8  (fun c => ?_) (fun c => ?_)
    · have h := hT9 c
      refine xr_iconst dX12_isShuffled_143 ?_
      refine xr_istore_n' (ll' := [some (xr G 74), none, none, some (xi 0), some (xi v4), none, none]) dX12_isShuffled_144 (by decide) rfl rfl ?_
      refine xr_iinc' (ll' := [some (xr G 74), none, none, some (xi 0), some (xi (v4 + 1)), none, none]) dX12_isShuffled_145 rfl (by decide) rfl rfl ?_
      refine xr_goto (tgt := 109) dX12_isShuffled_148 (by decide) ?_
      exact h
    · have h := hF10 c
      refine xr_aload_n dX12_isShuffled_122 rfl ?_
      refine xr_getR dX12_isShuffled_123 fl_X12_101 L_74 rfl ?_
      refine xr_iload dX12_isShuffled_126 rfl ?_
      obtain ⟨q11, h⟩ := h
      refine xr_iaload' (v := μ 102 v4) dX12_isShuffled_128 L_102 rfl (by decide) q11 rfl ?_
      refine xr_aload_n dX12_isShuffled_129 rfl ?_
      refine xr_getR dX12_isShuffled_130 fl_X12_107 L_74 rfl ?_
      refine xr_iload dX12_isShuffled_133 rfl ?_
      obtain ⟨q12, h⟩ := h
      refine xr_iaload' (v := μ 104 v4) dX12_isShuffled_135 L_104 rfl (by decide) q12 rfl ?_
      obtain ⟨q13, q14, hT15, hF16⟩ := h
      refine xr_icmp_ne (tgt := 143) dX12_isShuffled_136 (by decide) q13 q14 (fun c => ?_) (fun c => ?_)
      · have h := hT15 c
        refine xr_iconst dX12_isShuffled_143 ?_
        refine xr_istore_n' (ll' := [some (xr G 74), none, none, some (xi 0), some (xi v4), none, none]) dX12_isShuffled_144 (by decide) rfl rfl ?_
        refine xr_iinc' (ll' := [some (xr G 74), none, none, some (xi 0), some (xi (v4 + 1)), none, none]) dX12_isShuffled_145 rfl (by decide) rfl rfl ?_
        refine xr_goto (tgt := 109) dX12_isShuffled_148 (by decide) ?_
        exact h
      · have h := hF16 c
        refine xr_iconst dX12_isShuffled_139 ?_
        refine xr_goto (tgt := 144) dX12_isShuffled_140 (by decide) ?_
        refine xr_istore_n' (ll' := [some (xr G 74), none, none, some (xi 1), some (xi v4), none, none]) dX12_isShuffled_144 (by decide) rfl rfl ?_
        refine xr_iinc' (ll' := [some (xr G 74), none, none, some (xi 1), some (xi (v4 + 1)), none, none]) dX12_isShuffled_145 rfl (by decide) rfl rfl ?_
        refine xr_goto (tgt := 109) dX12_isShuffled_148 (by decide) ?_
        exact h
set_option maxRecDepth 20000 in
theorem B_X12_isShuffled_38 {G : xG} {l : Launch} {d : Nat} {P : Int → xMem → Prop} {v3 v4 v5 v6 : Int} {μ : xMem} (h : (iR v6 ∧ iR (μ 74 43) ∧ ((μ 74 43) ≤ v6 → (iR v5 ∧ (v5 = 0 → K_X12_isShuffled_25 G l (d + 1) P v3 (v4 + 1) μ) ∧ (v5 ≠ 0 → P 0 μ))) ∧ (v6 < (μ 74 43) → ((0 ≤ v6 ∧ v6 < 10) ∧ (iR (μ 102 v6) ∧ iR v4 ∧ ((μ 102 v6) ≠ v4 → K_X12_isShuffled_66 G l (d + 1) P v3 v4 v6 v5 0 μ) ∧ ((μ 102 v6) = v4 → K_X12_isShuffled_66 G l (d + 1) P v3 v4 v6 v5 1 μ)))))) : K_X12_isShuffled_38 G l (d + 1) P v3 v4 v5 v6 μ := by
  unfold K_X12_isShuffled_38
  refine xr_iload dX12_isShuffled_38 rfl ?_
  refine xr_aload_n dX12_isShuffled_40 rfl ?_
  refine xr_getI' (v := μ 74 43) dX12_isShuffled_41 fl_X12_253 L_74 rfl rfl rfl ?_
  obtain ⟨q1, q2, hT3, hF4⟩ := h
  refine xr_icmp_ge (tgt := 93) dX12_isShuffled_44 (by decide) q1 q2 (fun c => ?_) (fun c => ?_)
  · have h := hT3 c
    refine xr_iload dX12_isShuffled_93 rfl ?_
    obtain ⟨q5, hT6, hF7⟩ := h
    refine xr_if_eq (tgt := 100) dX12_isShuffled_95 (by decide) q5  (fun c => ?_) (fun c => ?_)
    · have h := hT6 c
      refine xr_iinc' (ll' := [some (xr G 74), none, none, some (xi v3), some (xi (v4 + 1)), some (xi v5), some (xi v6)]) dX12_isShuffled_100 rfl (by decide) rfl rfl ?_
      refine xr_goto (tgt := 25) dX12_isShuffled_103 (by decide) ?_
      refine xr_wk (ll' := [some (xr G 74), none, none, some (xi v3), some (xi (v4 + 1)), none, none]) ⟨rfl, ⟨rfl, ⟨rfl, trivial⟩⟩⟩ ?_
      exact h
    · have h := hF7 c
      refine xr_iconst dX12_isShuffled_98 ?_
      exact xr_zret dX12_isShuffled_99 rfl (x_nz (by decide)).1 ⟨rfl, _, rfl, x_01 (by decide), h⟩
  · have h := hF4 (Int.not_le.mp c)
    refine xr_iload dX12_isShuffled_47 rfl ?_
    refine xr_aload_n dX12_isShuffled_49 rfl ?_
    refine xr_getR dX12_isShuffled_50 fl_X12_101 L_74 rfl ?_
    refine xr_iload dX12_isShuffled_53 rfl ?_
    obtain ⟨q8, h⟩ := h
    refine xr_iaload' (v := μ 102 v6) dX12_isShuffled_55 L_102 rfl (by decide) q8 rfl ?_
    refine xr_iload dX12_isShuffled_56 rfl ?_
    obtain ⟨q9, q10, hT11, hF12⟩ := h
    refine xr_icmp_ne (tgt := 65) dX12_isShuffled_58 (by decide) q9 q10 (fun c => ?_) (fun c => ?_)
    · have h := hT11 c
      refine xr_iconst dX12_isShuffled_65 ?_
      refine xr_wk (ll' := [some (xr G 74), none, none, some (xi v3), some (xi v4), none, some (xi v6)]) ⟨rfl, ⟨rfl, ⟨rfl, ⟨rfl, trivial⟩⟩⟩⟩ ?_
      exact h
    · have h := hF12 c
      refine xr_iconst dX12_isShuffled_61 ?_
      refine xr_goto (tgt := 66) dX12_isShuffled_62 (by decide) ?_
      refine xr_wk (ll' := [some (xr G 74), none, none, some (xi v3), some (xi v4), none, some (xi v6)]) ⟨rfl, ⟨rfl, ⟨rfl, ⟨rfl, trivial⟩⟩⟩⟩ ?_
      exact h
set_option maxRecDepth 20000 in
theorem B_X12_isShuffled_66 {G : xG} {l : Launch} {d : Nat} {P : Int → xMem → Prop} {v3 v4 v6 s0 s1 : Int} {μ : xMem} (h : ((0 ≤ v6 ∧ v6 < 80) ∧ (iR (μ 104 v6) ∧ iR v4 ∧ ((μ 104 v6) ≠ v4 → K_X12_isShuffled_38 G l (d + 1) P v3 v4 (s0 + (s1 - 0)) (v6 + 1) μ) ∧ ((μ 104 v6) = v4 → K_X12_isShuffled_38 G l (d + 1) P v3 v4 (s0 + (s1 - 1)) (v6 + 1) μ)))) : K_X12_isShuffled_66 G l (d + 1) P v3 v4 v6 s0 s1 μ := by
  unfold K_X12_isShuffled_66
  refine xr_aload_n dX12_isShuffled_66 rfl ?_
  refine xr_getR dX12_isShuffled_67 fl_X12_107 L_74 rfl ?_
  refine xr_iload dX12_isShuffled_70 rfl ?_
  obtain ⟨q1, h⟩ := h
  refine xr_iaload' (v := μ 104 v6) dX12_isShuffled_72 L_104 rfl (by decide) q1 rfl ?_
  refine xr_iload dX12_isShuffled_73 rfl ?_
  obtain ⟨q2, q3, hT4, hF5⟩ := h
  refine xr_icmp_ne (tgt := 82) dX12_isShuffled_75 (by decide) q2 q3 (fun c => ?_) (fun c => ?_)
  · have h := hT4 c
    refine xr_iconst dX12_isShuffled_82 ?_
    refine xr_isub dX12_isShuffled_83 ?_
    refine xr_iadd dX12_isShuffled_84 ?_
    refine xr_istore' (ll' := [some (xr G 74), none, none, some (xi v3), some (xi v4), some (xi (s0 + (s1 - 0))), some (xi v6)]) dX12_isShuffled_85 (by decide) rfl rfl ?_
    refine xr_iinc' (ll' := [some (xr G 74), none, none, some (xi v3), some (xi v4), some (xi (s0 + (s1 - 0))), some (xi (v6 + 1))]) dX12_isShuffled_87 rfl (by decide) rfl rfl ?_
    refine xr_goto (tgt := 38) dX12_isShuffled_90 (by decide) ?_
    exact h
  · have h := hF5 c
    refine xr_iconst dX12_isShuffled_78 ?_
    refine xr_goto (tgt := 83) dX12_isShuffled_79 (by decide) ?_
    refine xr_isub dX12_isShuffled_83 ?_
    refine xr_iadd dX12_isShuffled_84 ?_
    refine xr_istore' (ll' := [some (xr G 74), none, none, some (xi v3), some (xi v4), some (xi (s0 + (s1 - 1))), some (xi v6)]) dX12_isShuffled_85 (by decide) rfl rfl ?_
    refine xr_iinc' (ll' := [some (xr G 74), none, none, some (xi v3), some (xi v4), some (xi (s0 + (s1 - 1))), some (xi (v6 + 1))]) dX12_isShuffled_87 rfl (by decide) rfl rfl ?_
    refine xr_goto (tgt := 38) dX12_isShuffled_90 (by decide) ?_
    exact h
theorem dX12_areEnds_0 : decode cX12_areEnds 0 = .ok (.iload_n 2, 1) := by decide +kernel
theorem dX12_areEnds_1 : decode cX12_areEnds 1 = .ok (.iload_n 1, 1) := by decide +kernel
theorem dX12_areEnds_2 : decode cX12_areEnds 2 = .ok (.isub, 1) := by decide +kernel
theorem dX12_areEnds_3 : decode cX12_areEnds 3 = .ok (.iconst 1, 1) := by decide +kernel
theorem dX12_areEnds_4 : decode cX12_areEnds 4 = .ok (.iadd, 1) := by decide +kernel
theorem dX12_areEnds_5 : decode cX12_areEnds 5 = .ok (.aload_n 0, 1) := by decide +kernel
theorem dX12_areEnds_6 : decode cX12_areEnds 6 = .ok (.getfield 253, 3) := by decide +kernel
theorem dX12_areEnds_9 : decode cX12_areEnds 9 = .ok (.if_icmp .eq 5, 3) := by decide +kernel
theorem dX12_areEnds_12 : decode cX12_areEnds 12 = .ok (.iconst 0, 1) := by decide +kernel
theorem dX12_areEnds_13 : decode cX12_areEnds 13 = .ok (.ireturn, 1) := by decide +kernel
theorem dX12_areEnds_14 : decode cX12_areEnds 14 = .ok (.iload_n 1, 1) := by decide +kernel
theorem dX12_areEnds_15 : decode cX12_areEnds 15 = .ok (.istore 4, 2) := by decide +kernel
theorem dX12_areEnds_17 : decode cX12_areEnds 17 = .ok (.iload 4, 2) := by decide +kernel
theorem dX12_areEnds_19 : decode cX12_areEnds 19 = .ok (.iload_n 2, 1) := by decide +kernel
theorem dX12_areEnds_20 : decode cX12_areEnds 20 = .ok (.if_icmp .gt 60, 3) := by decide +kernel
theorem dX12_areEnds_23 : decode cX12_areEnds 23 = .ok (.aload_n 0, 1) := by decide +kernel
theorem dX12_areEnds_24 : decode cX12_areEnds 24 = .ok (.getfield 95, 3) := by decide +kernel
theorem dX12_areEnds_27 : decode cX12_areEnds 27 = .ok (.iload 4, 2) := by decide +kernel
theorem dX12_areEnds_29 : decode cX12_areEnds 29 = .ok (.iaload, 1) := by decide +kernel
theorem dX12_areEnds_30 : decode cX12_areEnds 30 = .ok (.istore 5, 2) := by decide +kernel
theorem dX12_areEnds_32 : decode cX12_areEnds 32 = .ok (.aload_n 0, 1) := by decide +kernel
theorem dX12_areEnds_33 : decode cX12_areEnds 33 = .ok (.getfield 13, 3) := by decide +kernel
theorem dX12_areEnds_36 : decode cX12_areEnds 36 = .ok (.bipush 10, 2) := by decide +kernel
theorem dX12_areEnds_38 : decode cX12_areEnds 38 = .ok (.iload 5, 2) := by decide +kernel
theorem dX12_areEnds_40 : decode cX12_areEnds 40 = .ok (.imul, 1) := by decide +kernel
theorem dX12_areEnds_41 : decode cX12_areEnds 41 = .ok (.iload_n 3, 1) := by decide +kernel
theorem dX12_areEnds_42 : decode cX12_areEnds 42 = .ok (.ifCond .eq 7, 3) := by decide +kernel
theorem dX12_areEnds_45 : decode cX12_areEnds 45 = .ok (.iconst 0, 1) := by decide +kernel
theorem dX12_areEnds_46 : decode cX12_areEnds 46 = .ok (.goto 12, 3) := by decide +kernel
theorem dX12_areEnds_49 : decode cX12_areEnds 49 = .ok (.aload_n 0, 1) := by decide +kernel
theorem dX12_areEnds_50 : decode cX12_areEnds 50 = .ok (.getfield 16, 3) := by decide +kernel
theorem dX12_areEnds_53 : decode cX12_areEnds 53 = .ok (.iload 5, 2) := by decide +kernel
theorem dX12_areEnds_55 : decode cX12_areEnds 55 = .ok (.iaload, 1) := by decide +kernel
theorem dX12_areEnds_56 : decode cX12_areEnds 56 = .ok (.iconst 1, 1) := by decide +kernel
theorem dX12_areEnds_57 : decode cX12_areEnds 57 = .ok (.isub, 1) := by decide +kernel
theorem dX12_areEnds_58 : decode cX12_areEnds 58 = .ok (.iadd, 1) := by decide +kernel
theorem dX12_areEnds_59 : decode cX12_areEnds 59 = .ok (.baload, 1) := by decide +kernel
theorem dX12_areEnds_60 : decode cX12_areEnds 60 = .ok (.aload_n 0, 1) := by decide +kernel
theorem dX12_areEnds_61 : decode cX12_areEnds 61 = .ok (.getfield 101, 3) := by decide +kernel
theorem dX12_areEnds_64 : decode cX12_areEnds 64 = .ok (.iload 4, 2) := by decide +kernel
theorem dX12_areEnds_66 : decode cX12_areEnds 66 = .ok (.iload_n 1, 1) := by decide +kernel
theorem dX12_areEnds_67 : decode cX12_areEnds 67 = .ok (.isub, 1) := by decide +kernel
theorem dX12_areEnds_68 : decode cX12_areEnds 68 = .ok (.iaload, 1) := by decide +kernel
theorem dX12_areEnds_69 : decode cX12_areEnds 69 = .ok (.if_icmp .eq 5, 3) := by decide +kernel
theorem dX12_areEnds_72 : decode cX12_areEnds 72 = .ok (.iconst 0, 1) := by decide +kernel
theorem dX12_areEnds_73 : decode cX12_areEnds 73 = .ok (.ireturn, 1) := by decide +kernel
theorem dX12_areEnds_74 : decode cX12_areEnds 74 = .ok (.iinc 4 1, 3) := by decide +kernel
theorem dX12_areEnds_77 : decode cX12_areEnds 77 = .ok (.goto (-60), 3) := by decide +kernel
theorem dX12_areEnds_80 : decode cX12_areEnds 80 = .ok (.iconst 1, 1) := by decide +kernel
theorem dX12_areEnds_81 : decode cX12_areEnds 81 = .ok (.ireturn, 1) := by decide +kernel
def K_X12_areEnds_17 (G : xG) (l : Launch) (d : Nat) (P : Int → xMem → Prop) (v1 v2 v3 v4 : Int) (μ : xMem) : Prop := RR G l d 0 0 false mX12_areEnds (qI P) 17 [some (xr G 74), some (xi v1), some (xi v2), some (xi v3), some (xi v4), none] [] LAY μ 0 0
def K_X12_areEnds_58 (G : xG) (l : Launch) (d : Nat) (P : Int → xMem → Prop) (v1 v2 v3 v4 s1 s2 : Int) (μ : xMem) : Prop := RR G l d 0 0 false mX12_areEnds (qI P) 58 [some (xr G 74), some (xi v1), some (xi v2), some (xi v3), some (xi v4), none] [xi s2, xi s1, xr G 76] LAY μ 0 0
set_option maxRecDepth 20000 in
theorem E_X12_areEnds {G : xG} {l : Launch} {d : Nat} {P : Int → xMem → Prop} {v1 v2 v3 : Int} {μ : xMem} (h : (iR ((v2 - v1) + 1) ∧ iR (μ 74 43) ∧ (((v2 - v1) + 1) = (μ 74 43) → K_X12_areEnds_17 G l (d + 1) P v1 v2 v3 v1 μ) ∧ (((v2 - v1) + 1) ≠ (μ 74 43) → P 0 μ))) : CI G l (d + 1) mX12_areEnds [xr G 74, xi v1, xi v2, xi v3] μ P := by
  refine CC.ofRR (ll := [some (xr G 74), some (xi v1), some (xi v2), some (xi v3), none, none]) (by decide +kernel) (Nat.le_of_ble_eq_true rfl) rfl (fun h => by cases h) ?_
  refine xr_iload_n dX12_areEnds_0 rfl ?_
  refine xr_iload_n dX12_areEnds_1 rfl ?_
  refine xr_isub dX12_areEnds_2 ?_
  refine xr_iconst dX12_areEnds_3 ?_
  refine xr_iadd dX12_areEnds_4 ?_
  refine xr_aload_n dX12_areEnds_5 rfl ?_
  refine xr_getI' (v := μ 74 43) dX12_areEnds_6 fl_X12_253 L_74 rfl rfl rfl ?_
  obtain ⟨q1, q2, hT3, hF4⟩ := h
  refine xr_icmp_eq (tgt := 14) dX12_areEnds_9 (by decide) q1 q2 (fun c => ?_) (fun c => ?_)
  · have h := hT3 c
    refine xr_iload_n dX12_areEnds_14 rfl ?_
    refine xr_istore' (ll' := [some (xr G 74), some (xi v1), some (xi v2), some (xi v3), some (xi v1), none]) dX12_areEnds_15 (by decide) rfl rfl ?_
    exact h
  · have h := hF4 c
    refine xr_iconst dX12_areEnds_12 ?_
    exact xr_zret dX12_areEnds_13 rfl (x_nz (by decide)).1 ⟨rfl, _, rfl, x_01 (by decide), h⟩
set_option maxRecDepth 20000 in
theorem B_X12_areEnds_17 {G : xG} {l : Launch} {d : Nat} {P : Int → xMem → Prop} {v1 v2 v3 v4 : Int} {μ : xMem} (h : (iR v4 ∧ iR v2 ∧ (v2 < v4 → P 1 μ) ∧ (v4 ≤ v2 → ((0 ≤ v4 ∧ v4 < 8) ∧ (iR v3 ∧ (v3 = 0 → ((0 ≤ μ 100 v4 ∧ μ 100 v4 < 120) ∧ K_X12_areEnds_58 G l (d + 1) P v1 v2 v3 v4 (10 * (μ 100 v4)) ((μ 77 (μ 100 v4)) - 1) μ)) ∧ (v3 ≠ 0 → K_X12_areEnds_58 G l (d + 1) P v1 v2 v3 v4 (10 * (μ 100 v4)) 0 μ)))))) : K_X12_areEnds_17 G l (d + 1) P v1 v2 v3 v4 μ := by
  unfold K_X12_areEnds_17
  refine xr_iload dX12_areEnds_17 rfl ?_
  refine xr_iload_n dX12_areEnds_19 rfl ?_
  obtain ⟨q1, q2, hT3, hF4⟩ := h
  refine xr_icmp_gt (tgt := 80) dX12_areEnds_20 (by decide) q1 q2 (fun c => ?_) (fun c => ?_)
  · have h := hT3 c
    refine xr_iconst dX12_areEnds_80 ?_
    exact xr_zret dX12_areEnds_81 rfl (x_nz (by decide)).1 ⟨rfl, _, rfl, x_01 (by decide), h⟩
  · have h := hF4 (Int.not_lt.mp c)
    refine xr_aload_n dX12_areEnds_23 rfl ?_
    refine xr_getR dX12_areEnds_24 fl_X12_95 L_74 rfl ?_
    refine xr_iload dX12_areEnds_27 rfl ?_
    obtain ⟨q5, h⟩ := h
    refine xr_iaload' (v := μ 100 v4) dX12_areEnds_29 L_100 rfl (by decide) q5 rfl ?_
    refine xr_istore' (ll' := [some (xr G 74), some (xi v1), some (xi v2), some (xi v3), some (xi v4), some (xi (μ 100 v4))]) dX12_areEnds_30 (by decide) rfl rfl ?_
    refine xr_aload_n dX12_areEnds_32 rfl ?_
    refine xr_getR dX12_areEnds_33 fl_X12_13 L_74 rfl ?_
    refine xr_bipush dX12_areEnds_36 (by decide) ?_
    refine xr_iload dX12_areEnds_38 rfl ?_
    refine xr_imul dX12_areEnds_40 ?_
    refine xr_iload_n dX12_areEnds_41 rfl ?_
    obtain ⟨q6, hT7, hF8⟩ := h
    refine xr_if_eq (tgt := 49) dX12_areEnds_42 (by decide) q6  (fun c => ?_) (fun c => ?_)
    · have h := hT7 c
      refine xr_aload_n dX12_areEnds_49 rfl ?_
      refine xr_getR dX12_areEnds_50 fl_X12_16 L_74 rfl ?_
      refine xr_iload dX12_areEnds_53 rfl ?_
      obtain ⟨q9, h⟩ := h
      refine xr_iaload' (v := μ 77 (μ 100 v4)) dX12_areEnds_55 L_77 rfl (by decide) q9 rfl ?_
      refine xr_iconst dX12_areEnds_56 ?_
      refine xr_isub dX12_areEnds_57 ?_
      refine xr_wk (ll' := [some (xr G 74), some (xi v1), some (xi v2), some (xi v3), some (xi v4), none]) ⟨rfl, ⟨rfl, ⟨rfl, ⟨rfl, ⟨rfl, trivial⟩⟩⟩⟩⟩ ?_
      exact h
    · have h := hF8 c
      refine xr_iconst dX12_areEnds_45 ?_
      refine xr_goto (tgt := 58) dX12_areEnds_46 (by decide) ?_
      refine xr_wk (ll' := [some (xr G 74), some (xi v1), some (xi v2), some (xi v3), some (xi v4), none]) ⟨rfl, ⟨rfl, ⟨rfl, ⟨rfl, ⟨rfl, trivial⟩⟩⟩⟩⟩ ?_
      exact h
set_option maxRecDepth 20000 in
theorem B_X12_areEnds_58 {G : xG} {l : Launch} {d : Nat} {P : Int → xMem → Prop} {v1 v2 v3 v4 s1 s2 : Int} {μ : xMem} (h : ((0 ≤ s1 + s2 ∧ s1 + s2 < 1200) ∧ ((0 ≤ v4 - v1 ∧ v4 - v1 < 10) ∧ (iR (μ 76 (s1 + s2)) ∧ iR (μ 102 (v4 - v1)) ∧ ((μ 76 (s1 + s2)) = (μ 102 (v4 - v1)) → K_X12_areEnds_17 G l (d + 1) P v1 v2 v3 (v4 + 1) μ) ∧ ((μ 76 (s1 + s2)) ≠ (μ 102 (v4 - v1)) → P 0 μ))))) : K_X12_areEnds_58 G l (d + 1) P v1 v2 v3 v4 s1 s2 μ := by
  unfold K_X12_areEnds_58
  refine xr_iadd dX12_areEnds_58 ?_
  obtain ⟨q1, h⟩ := h
  refine xr_baload' (v := μ 76 (s1 + s2)) dX12_areEnds_59 L_76 rfl (by decide) q1 rfl ?_
  refine xr_aload_n dX12_areEnds_60 rfl ?_
  refine xr_getR dX12_areEnds_61 fl_X12_101 L_74 rfl ?_
  refine xr_iload dX12_areEnds_64 rfl ?_
  refine xr_iload_n dX12_areEnds_66 rfl ?_
  refine xr_isub dX12_areEnds_67 ?_
  obtain ⟨q2, h⟩ := h
  refine xr_iaload' (v := μ 102 (v4 - v1)) dX12_areEnds_68 L_102 rfl (by decide) q2 rfl ?_
  obtain ⟨q3, q4, hT5, hF6⟩ := h
  refine xr_icmp_eq (tgt := 74) dX12_areEnds_69 (by decide) q3 q4 (fun c => ?_) (fun c => ?_)
  · have h := hT5 c
    refine xr_iinc' (ll' := [some (xr G 74), some (xi v1), some (xi v2), some (xi v3), some (xi (v4 + 1)), none]) dX12_areEnds_74 rfl (by decide) rfl rfl ?_
    refine xr_goto (tgt := 17) dX12_areEnds_77 (by decide) ?_
    exact h
  · have h := hF6 c
    refine xr_iconst dX12_areEnds_72 ?_
    exact xr_zret dX12_areEnds_73 rfl (x_nz (by decide)).1 ⟨rfl, _, rfl, x_01 (by decide), h⟩
theorem dX12_isHidden_0 : decode cX12_isHidden 0 = .ok (.iload_n 1, 1) := by decide +kernel
theorem dX12_isHidden_1 : decode cX12_isHidden 1 = .ok (.iload_n 2, 1) := by decide +kernel
theorem dX12_isHidden_2 : decode cX12_isHidden 2 = .ok (.if_icmp .ne 5, 3) := by decide +kernel
theorem dX12_isHidden_5 : decode cX12_isHidden 5 = .ok (.iconst 0, 1) := by decide +kernel
theorem dX12_isHidden_6 : decode cX12_isHidden 6 = .ok (.ireturn, 1) := by decide +kernel
theorem dX12_isHidden_7 : decode cX12_isHidden 7 = .ok (.aload_n 0, 1) := by decide +kernel
theorem dX12_isHidden_8 : decode cX12_isHidden 8 = .ok (.iload_n 1, 1) := by decide +kernel
theorem dX12_isHidden_9 : decode cX12_isHidden 9 = .ok (.iload_n 2, 1) := by decide +kernel
theorem dX12_isHidden_10 : decode cX12_isHidden 10 = .ok (.invokevirtual 265, 3) := by decide +kernel
theorem dX12_isHidden_13 : decode cX12_isHidden 13 = .ok (.aload_n 0, 1) := by decide +kernel
theorem dX12_isHidden_14 : decode cX12_isHidden 14 = .ok (.getfield 16, 3) := by decide +kernel
theorem dX12_isHidden_17 : decode cX12_isHidden 17 = .ok (.aload_n 0, 1) := by decide +kernel
theorem dX12_isHidden_18 : decode cX12_isHidden 18 = .ok (.getfield 95, 3) := by decide +kernel
theorem dX12_isHidden_21 : decode cX12_isHidden 21 = .ok (.iload_n 1, 1) := by decide +kernel
theorem dX12_isHidden_22 : decode cX12_isHidden 22 = .ok (.iaload, 1) := by decide +kernel
theorem dX12_isHidden_23 : decode cX12_isHidden 23 = .ok (.iaload, 1) := by decide +kernel
theorem dX12_isHidden_24 : decode cX12_isHidden 24 = .ok (.istore_n 3, 1) := by decide +kernel
theorem dX12_isHidden_25 : decode cX12_isHidden 25 = .ok (.aload_n 0, 1) := by decide +kernel
theorem dX12_isHidden_26 : decode cX12_isHidden 26 = .ok (.getfield 262, 3) := by decide +kernel
theorem dX12_isHidden_29 : decode cX12_isHidden 29 = .ok (.aload_n 0, 1) := by decide +kernel
theorem dX12_isHidden_30 : decode cX12_isHidden 30 = .ok (.getfield 16, 3) := by decide +kernel
theorem dX12_isHidden_33 : decode cX12_isHidden 33 = .ok (.aload_n 0, 1) := by decide +kernel
theorem dX12_isHidden_34 : decode cX12_isHidden 34 = .ok (.getfield 95, 3) := by decide +kernel
theorem dX12_isHidden_37 : decode cX12_isHidden 37 = .ok (.iload_n 2, 1) := by decide +kernel
theorem dX12_isHidden_38 : decode cX12_isHidden 38 = .ok (.iaload, 1) := by decide +kernel
theorem dX12_isHidden_39 : decode cX12_isHidden 39 = .ok (.iaload, 1) := by decide +kernel
theorem dX12_isHidden_40 : decode cX12_isHidden 40 = .ok (.isub, 1) := by decide +kernel
theorem dX12_isHidden_41 : decode cX12_isHidden 41 = .ok (.istore 4, 2) := by decide +kernel
theorem dX12_isHidden_43 : decode cX12_isHidden 43 = .ok (.iconst 1, 1) := by decide +kernel
theorem dX12_isHidden_44 : decode cX12_isHidden 44 = .ok (.istore 5, 2) := by decide +kernel
theorem dX12_isHidden_46 : decode cX12_isHidden 46 = .ok (.iload 5, 2) := by decide +kernel
theorem dX12_isHidden_48 : decode cX12_isHidden 48 = .ok (.iload_n 3, 1) := by decide +kernel
theorem dX12_isHidden_49 : decode cX12_isHidden 49 = .ok (.if_icmp .ge 101, 3) := by decide +kernel
theorem dX12_isHidden_52 : decode cX12_isHidden 52 = .ok (.iload 5, 2) := by decide +kernel
theorem dX12_isHidden_54 : decode cX12_isHidden 54 = .ok (.aload_n 0, 1) := by decide +kernel
theorem dX12_isHidden_55 : decode cX12_isHidden 55 = .ok (.getfield 253, 3) := by decide +kernel
theorem dX12_isHidden_58 : decode cX12_isHidden 58 = .ok (.iadd, 1) := by decide +kernel
theorem dX12_isHidden_59 : decode cX12_isHidden 59 = .ok (.iconst 1, 1) := by decide +kernel
theorem dX12_isHidden_60 : decode cX12_isHidden 60 = .ok (.isub, 1) := by decide +kernel
theorem dX12_isHidden_61 : decode cX12_isHidden 61 = .ok (.istore 6, 2) := by decide +kernel
theorem dX12_isHidden_63 : decode cX12_isHidden 63 = .ok (.iload 6, 2) := by decide +kernel
theorem dX12_isHidden_65 : decode cX12_isHidden 65 = .ok (.iload 4, 2) := by decide +kernel
theorem dX12_isHidden_67 : decode cX12_isHidden 67 = .ok (.if_icmp .lt 77, 3) := by decide +kernel
theorem dX12_isHidden_70 : decode cX12_isHidden 70 = .ok (.iload 6, 2) := by decide +kernel
theorem dX12_isHidden_72 : decode cX12_isHidden 72 = .ok (.aload_n 0, 1) := by decide +kernel
theorem dX12_isHidden_73 : decode cX12_isHidden 73 = .ok (.getfield 262, 3) := by decide +kernel
theorem dX12_isHidden_76 : decode cX12_isHidden 76 = .ok (.iconst 1, 1) := by decide +kernel
theorem dX12_isHidden_77 : decode cX12_isHidden 77 = .ok (.isub, 1) := by decide +kernel
theorem dX12_isHidden_78 : decode cX12_isHidden 78 = .ok (.if_icmp .lt 6, 3) := by decide +kernel
theorem dX12_isHidden_81 : decode cX12_isHidden 81 = .ok (.goto 63, 3) := by decide +kernel
theorem dX12_isHidden_84 : decode cX12_isHidden 84 = .ok (.iconst 1, 1) := by decide +kernel
theorem dX12_isHidden_85 : decode cX12_isHidden 85 = .ok (.istore 7, 2) := by decide +kernel
theorem dX12_isHidden_87 : decode cX12_isHidden 87 = .ok (.iconst 0, 1) := by decide +kernel
theorem dX12_isHidden_88 : decode cX12_isHidden 88 = .ok (.istore 8, 2) := by decide +kernel
theorem dX12_isHidden_90 : decode cX12_isHidden 90 = .ok (.iload 8, 2) := by decide +kernel
theorem dX12_isHidden_92 : decode cX12_isHidden 92 = .ok (.aload_n 0, 1) := by decide +kernel
theorem dX12_isHidden_93 : decode cX12_isHidden 93 = .ok (.getfield 253, 3) := by decide +kernel
theorem dX12_isHidden_96 : decode cX12_isHidden 96 = .ok (.if_icmp .ge 41, 3) := by decide +kernel
theorem dX12_isHidden_99 : decode cX12_isHidden 99 = .ok (.iload 7, 2) := by decide +kernel
theorem dX12_isHidden_101 : decode cX12_isHidden 101 = .ok (.ifCond .eq 27, 3) := by decide +kernel
theorem dX12_isHidden_104 : decode cX12_isHidden 104 = .ok (.aload_n 0, 1) := by decide +kernel
theorem dX12_isHidden_105 : decode cX12_isHidden 105 = .ok (.getfield 107, 3) := by decide +kernel
theorem dX12_isHidden_108 : decode cX12_isHidden 108 = .ok (.iload 5, 2) := by decide +kernel
theorem dX12_isHidden_110 : decode cX12_isHidden 110 = .ok (.iload 8, 2) := by decide +kernel
theorem dX12_isHidden_112 : decode cX12_isHidden 112 = .ok (.iadd, 1) := by decide +kernel
theorem dX12_isHidden_113 : decode cX12_isHidden 113 = .ok (.iaload, 1) := by decide +kernel
theorem dX12_isHidden_114 : decode cX12_isHidden 114 = .ok (.aload_n 0, 1) := by decide +kernel
theorem dX12_isHidden_115 : decode cX12_isHidden 115 = .ok (.getfield 101, 3) := by decide +kernel
theorem dX12_isHidden_118 : decode cX12_isHidden 118 = .ok (.iload 8, 2) := by decide +kernel
theorem dX12_isHidden_120 : decode cX12_isHidden 120 = .ok (.iaload, 1) := by decide +kernel
theorem dX12_isHidden_121 : decode cX12_isHidden 121 = .ok (.if_icmp .ne 7, 3) := by decide +kernel
theorem dX12_isHidden_124 : decode cX12_isHidden 124 = .ok (.iconst 1, 1) := by decide +kernel
theorem dX12_isHidden_125 : decode cX12_isHidden 125 = .ok (.goto 4, 3) := by decide +kernel
theorem dX12_isHidden_128 : decode cX12_isHidden 128 = .ok (.iconst 0, 1) := by decide +kernel
theorem dX12_isHidden_129 : decode cX12_isHidden 129 = .ok (.istore 7, 2) := by decide +kernel
theorem dX12_isHidden_131 : decode cX12_isHidden 131 = .ok (.iinc 8 1, 3) := by decide +kernel
theorem dX12_isHidden_134 : decode cX12_isHidden 134 = .ok (.goto (-44), 3) := by decide +kernel
theorem dX12_isHidden_137 : decode cX12_isHidden 137 = .ok (.iload 7, 2) := by decide +kernel
theorem dX12_isHidden_139 : decode cX12_isHidden 139 = .ok (.ifCond .eq 5, 3) := by decide +kernel
theorem dX12_isHidden_142 : decode cX12_isHidden 142 = .ok (.iconst 1, 1) := by decide +kernel
theorem dX12_isHidden_143 : decode cX12_isHidden 143 = .ok (.ireturn, 1) := by decide +kernel
theorem dX12_isHidden_144 : decode cX12_isHidden 144 = .ok (.iinc 5 1, 3) := by decide +kernel
theorem dX12_isHidden_147 : decode cX12_isHidden 147 = .ok (.goto (-101), 3) := by decide +kernel
theorem dX12_isHidden_150 : decode cX12_isHidden 150 = .ok (.iconst 0, 1) := by decide +kernel
theorem dX12_isHidden_151 : decode cX12_isHidden 151 = .ok (.ireturn, 1) := by decide +kernel
def K_X12_isHidden_46 (G : xG) (l : Launch) (d : Nat) (P : Int → xMem → Prop) (v3 v4 v5 : Int) (μ : xMem) : Prop := RR G l d 0 0 false mX12_isHidden (qI P) 46 [some (xr G 74), none, none, some (xi v3), some (xi v4), some (xi v5), none, none, none] [] LAY μ 0 0
def K_X12_isHidden_90 (G : xG) (l : Launch) (d : Nat) (P : Int → xMem → Prop) (v3 v4 v5 v7 v8 : Int) (μ : xMem) : Prop := RR G l d 0 0 false mX12_isHidden (qI P) 90 [some (xr G 74), none, none, some (xi v3), some (xi v4), some (xi v5), none, some (xi v7), some (xi v8)] [] LAY μ 0 0
set_option maxRecDepth 20000 in
theorem E_X12_isHidden {G : xG} {l : Launch} {d : Nat} {P : Int → xMem → Prop} {v1 v2 : Int} {μ : xMem} (h : (iR v1 ∧ iR v2 ∧ (v1 ≠ v2 → CV G l d mX12_takeRest [xr G 74, xi v1, xi v2] μ (fun m6 => ((0 ≤ v1 ∧ v1 < 8) ∧ ((0 ≤ m6 100 v1 ∧ m6 100 v1 < 120) ∧ ((0 ≤ v2 ∧ v2 < 8) ∧ ((0 ≤ m6 100 v2 ∧ m6 100 v2 < 120) ∧ K_X12_isHidden_46 G l (d + 1) P (m6 77 (m6 100 v1)) ((m6 74 45) - (m6 77 (m6 100 v2))) 1 m6)))))) ∧ (v1 = v2 → P 0 μ))) : CI G l (d + 1) mX12_isHidden [xr G 74, xi v1, xi v2] μ P := by
  refine CC.ofRR (ll := [some (xr G 74), some (xi v1), some (xi v2), none, none, none, none, none, none]) (by decide +kernel) (Nat.le_of_ble_eq_true rfl) rfl (fun h => by cases h) ?_
  refine xr_iload_n dX12_isHidden_0 rfl ?_
  refine xr_iload_n dX12_isHidden_1 rfl ?_
  obtain ⟨q1, q2, hT3, hF4⟩ := h
  refine xr_icmp_ne (tgt := 7) dX12_isHidden_2 (by decide) q1 q2 (fun c => ?_) (fun c => ?_)
  · have h := hT3 c
    refine xr_aload_n dX12_isHidden_7 rfl ?_
    refine xr_iload_n dX12_isHidden_8 rfl ?_
    refine xr_iload_n dX12_isHidden_9 rfl ?_
    refine xr_cvV (As := [xi v1, xi v2]) dX12_isHidden_10 mi_X12_takeRest ml_X12_265 se_X12_takeRest L_74 rfl rfl rfl (Nat.le_of_ble_eq_true rfl) h (fun m6 h => ?_)
    refine xr_aload_n dX12_isHidden_13 rfl ?_
    refine xr_getR dX12_isHidden_14 fl_X12_16 L_74 rfl ?_
    refine xr_aload_n dX12_isHidden_17 rfl ?_
    refine xr_getR dX12_isHidden_18 fl_X12_95 L_74 rfl ?_
    refine xr_iload_n dX12_isHidden_21 rfl ?_
    obtain ⟨q7, h⟩ := h
    refine xr_iaload' (v := m6 100 v1) dX12_isHidden_22 L_100 rfl (by decide) q7 rfl ?_
    obtain ⟨q8, h⟩ := h
    refine xr_iaload' (v := m6 77 (m6 100 v1)) dX12_isHidden_23 L_77 rfl (by decide) q8 rfl ?_
    refine xr_istore_n' (ll' := [some (xr G 74), some (xi v1), some (xi v2), some (xi (m6 77 (m6 100 v1))), none, none, none, none, none]) dX12_isHidden_24 (by decide) rfl rfl ?_
    refine xr_aload_n dX12_isHidden_25 rfl ?_
    refine xr_getI' (v := m6 74 45) dX12_isHidden_26 fl_X12_262 L_74 rfl rfl rfl ?_
    refine xr_aload_n dX12_isHidden_29 rfl ?_
    refine xr_getR dX12_isHidden_30 fl_X12_16 L_74 rfl ?_
    refine xr_aload_n dX12_isHidden_33 rfl ?_
    refine xr_getR dX12_isHidden_34 fl_X12_95 L_74 rfl ?_
    refine xr_iload_n dX12_isHidden_37 rfl ?_
    obtain ⟨q9, h⟩ := h
    refine xr_iaload' (v := m6 100 v2) dX12_isHidden_38 L_100 rfl (by decide) q9 rfl ?_
    obtain ⟨q10, h⟩ := h
    refine xr_iaload' (v := m6 77 (m6 100 v2)) dX12_isHidden_39 L_77 rfl (by decide) q10 rfl ?_
    refine xr_isub dX12_isHidden_40 ?_
    refine xr_istore' (ll' := [some (xr G 74), some (xi v1), some (xi v2), some (xi (m6 77 (m6 100 v1))), some (xi ((m6 74 45) - (m6 77 (m6 100 v2)))), none, none, none, none]) dX12_isHidden_41 (by decide) rfl rfl ?_
    refine xr_iconst dX12_isHidden_43 ?_
    refine xr_istore' (ll' := [some (xr G 74), some (xi v1), some (xi v2), some (xi (m6 77 (m6 100 v1))), some (xi ((m6 74 45) - (m6 77 (m6 100 v2)))), some (xi 1), none, none, none]) dX12_isHidden_44 (by decide) rfl rfl ?_
    refine xr_wk (ll' := [some (xr G 74), none, none, some (xi (m6 77 (m6 100 v1))), some (xi ((m6 74 45) - (m6 77 (m6 100 v2)))), some (xi 1), none, none, none]) ⟨rfl, ⟨rfl, ⟨rfl, ⟨rfl, trivial⟩⟩⟩⟩ ?_
    exact h
  · have h := hF4 c
    refine xr_iconst dX12_isHidden_5 ?_
    exact xr_zret dX12_isHidden_6 rfl (x_nz (by decide)).1 ⟨rfl, _, rfl, x_01 (by decide), h⟩
set_option maxRecDepth 20000 in
theorem B_X12_isHidden_46 {G : xG} {l : Launch} {d : Nat} {P : Int → xMem → Prop} {v3 v4 v5 : Int} {μ : xMem} (h : (iR v5 ∧ iR v3 ∧ (v3 ≤ v5 → P 0 μ) ∧ (v5 < v3 → (iR ((v5 + (μ 74 43)) - 1) ∧ iR v4 ∧ (((v5 + (μ 74 43)) - 1) < v4 → K_X12_isHidden_46 G l (d + 1) P v3 v4 (v5 + 1) μ) ∧ (v4 ≤ ((v5 + (μ 74 43)) - 1) → (iR ((μ 74 45) - 1) ∧ (((v5 + (μ 74 43)) - 1) < ((μ 74 45) - 1) → K_X12_isHidden_90 G l (d + 1) P v3 v4 v5 1 0 μ) ∧ (((μ 74 45) - 1) ≤ ((v5 + (μ 74 43)) - 1) → K_X12_isHidden_46 G l (d + 1) P v3 v4 (v5 + 1) μ))))))) : K_X12_isHidden_46 G l (d + 1) P v3 v4 v5 μ := by
  unfold K_X12_isHidden_46
  refine xr_iload dX12_isHidden_46 rfl ?_
  refine xr_iload_n dX12_isHidden_48 rfl ?_
  obtain ⟨q1, q2, hT3, hF4⟩ := h
  refine xr_icmp_ge (tgt := 150) dX12_isHidden_49 (by decide) q1 q2 (fun c => ?_) (fun c => ?_)
  · have h := hT3 c
    refine xr_iconst dX12_isHidden_150 ?_
    exact xr_zret dX12_isHidden_151 rfl (x_nz (by decide)).1 ⟨rfl, _, rfl, x_01 (by decide), h⟩
  · have h := hF4 (Int.not_le.mp c)
    refine xr_iload dX12_isHidden_52 rfl ?_
    refine xr_aload_n dX12_isHidden_54 rfl ?_
    refine xr_getI' (v := μ 74 43) dX12_isHidden_55 fl_X12_253 L_74 rfl rfl rfl ?_
    refine xr_iadd dX12_isHidden_58 ?_
    refine xr_iconst dX12_isHidden_59 ?_
    refine xr_isub dX12_isHidden_60 ?_
    refine xr_istore' (ll' := [some (xr G 74), none, none, some (xi v3), some (xi v4), some (xi v5), some (xi ((v5 + (μ 74 43)) - 1)), none, none]) dX12_isHidden_61 (by decide) rfl rfl ?_
    refine xr_iload dX12_isHidden_63 rfl ?_
    refine xr_iload dX12_isHidden_65 rfl ?_
    obtain ⟨q5, q6, hT7, hF8⟩ := h
    refine xr_icmp_lt (tgt := 144) dX12_isHidden_67 (by decide) q5 q6 (fun c => ?_) (fun c => ?_)
    · have h := hT7 c
      refine xr_iinc' (ll' := [some (xr G 74), none, none, some (xi v3), some (xi v4), some (xi (v5 + 1)), some (xi ((v5 + (μ 74 43)) - 1)), none, none]) dX12_isHidden_144 rfl (by decide) rfl rfl ?_
      refine xr_goto (tgt := 46) dX12_isHidden_147 (by decide) ?_
      refine xr_wk (ll' := [some (xr G 74), none, none, some (xi v3), some (xi v4), some (xi (v5 + 1)), none, none, none]) ⟨rfl, ⟨rfl, ⟨rfl, ⟨rfl, trivial⟩⟩⟩⟩ ?_
      exact h
    · have h := hF8 (Int.not_lt.mp c)
      refine xr_iload dX12_isHidden_70 rfl ?_
      refine xr_aload_n dX12_isHidden_72 rfl ?_
      refine xr_getI' (v := μ 74 45) dX12_isHidden_73 fl_X12_262 L_74 rfl rfl rfl ?_
      refine xr_iconst dX12_isHidden_76 ?_
      refine xr_isub dX12_isHidden_77 ?_
      obtain ⟨q9, hT10, hF11⟩ := h
      refine xr_icmp_lt (tgt := 84) dX12_isHidden_78 (by decide) q5 q9 (fun c => ?_) (fun c => ?_)
      · have h := hT10 c
        refine xr_iconst dX12_isHidden_84 ?_
        refine xr_istore' (ll' := [some (xr G 74), none, none, some (xi v3), some (xi v4), some (xi v5), some (xi ((v5 + (μ 74 43)) - 1)), some (xi 1), none]) dX12_isHidden_85 (by decide) rfl rfl ?_
        refine xr_iconst dX12_isHidden_87 ?_
        refine xr_istore' (ll' := [some (xr G 74), none, none, some (xi v3), some (xi v4), some (xi v5), some (xi ((v5 + (μ 74 43)) - 1)), some (xi 1), some (xi 0)]) dX12_isHidden_88 (by decide) rfl rfl ?_
        refine xr_wk (ll' := [some (xr G 74), none, none, some (xi v3), some (xi v4), some (xi v5), none, some (xi 1), some (xi 0)]) ⟨rfl, ⟨rfl, ⟨rfl, ⟨rfl, ⟨rfl, ⟨rfl, trivial⟩⟩⟩⟩⟩⟩ ?_
        exact h
      · have h := hF11 (Int.not_lt.mp c)
        refine xr_goto (tgt := 144) dX12_isHidden_81 (by decide) ?_
        refine xr_iinc' (ll' := [some (xr G 74), none, none, some (xi v3), some (xi v4), some (xi (v5 + 1)), some (xi ((v5 + (μ 74 43)) - 1)), none, none]) dX12_isHidden_144 rfl (by decide) rfl rfl ?_
        refine xr_goto (tgt := 46) dX12_isHidden_147 (by decide) ?_
        refine xr_wk (ll' := [some (xr G 74), none, none, some (xi v3), some (xi v4), some (xi (v5 + 1)), none, none, none]) ⟨rfl, ⟨rfl, ⟨rfl, ⟨rfl, trivial⟩⟩⟩⟩ ?_
        exact h
set_option maxRecDepth 20000 in
theorem B_X12_isHidden_90 {G : xG} {l : Launch} {d : Nat} {P : Int → xMem → Prop} {v3 v4 v5 v7 v8 : Int} {μ : xMem} (h : (iR v8 ∧ iR (μ 74 43) ∧ ((μ 74 43) ≤ v8 → (iR v7 ∧ (v7 = 0 → K_X12_isHidden_46 G l (d + 1) P v3 v4 (v5 + 1) μ) ∧ (v7 ≠ 0 → P 1 μ))) ∧ (v8 < (μ 74 43) → (iR v7 ∧ (v7 = 0 → K_X12_isHidden_90 G l (d + 1) P v3 v4 v5 0 (v8 + 1) μ) ∧ (v7 ≠ 0 → ((0 ≤ v5 + v8 ∧ v5 + v8 < 80) ∧ ((0 ≤ v8 ∧ v8 < 10) ∧ (iR (μ 104 (v5 + v8)) ∧ iR (μ 102 v8) ∧ ((μ 104 (v5 + v8)) ≠ (μ 102 v8) → K_X12_isHidden_90 G l (d + 1) P v3 v4 v5 0 (v8 + 1) μ) ∧ ((μ 104 (v5 + v8)) = (μ 102 v8) → K_X12_isHidden_90 G l (d + 1) P v3 v4 v5 1 (v8 + 1) μ))))))))) : K_X12_isHidden_90 G l (d + 1) P v3 v4 v5 v7 v8 μ := by
  unfold K_X12_isHidden_90
  refine xr_iload dX12_isHidden_90 rfl ?_
  refine xr_aload_n dX12_isHidden_92 rfl ?_
  refine xr_getI' (v := μ 74 43) dX12_isHidden_93 fl_X12_253 L_74 rfl rfl rfl ?_
  obtain ⟨q1, q2, hT3, hF4⟩ := h
  refine xr_icmp_ge (tgt := 137) dX12_isHidden_96 (by decide) q1 q2 (fun c => ?_) (fun c => ?_)
  · have h := hT3 c
    refine xr_iload dX12_isHidden_137 rfl ?_
    obtain ⟨q5, hT6, hF7⟩ := h
    refine xr_if_eq (tgt := 144) dX12_isHidden_139 (by decide) q5  (fun c => ?_) (fun c => ?_)
    · have h := hT6 c
      refine xr_iinc' (ll' := [some (xr G 74), none, none, some (xi v3), some (xi v4), some (xi (v5 + 1)), none, some (xi v7), some (xi v8)]) dX12_isHidden_144 rfl (by decide) rfl rfl ?_
      refine xr_goto (tgt := 46) dX12_isHidden_147 (by decide) ?_
      refine xr_wk (ll' := [some (xr G 74), none, none, some (xi v3), some (xi v4), some (xi (v5 + 1)), none, none, none]) ⟨rfl, ⟨rfl, ⟨rfl, ⟨rfl, trivial⟩⟩⟩⟩ ?_
      exact h
    · have h := hF7 c
      refine xr_iconst dX12_isHidden_142 ?_
      exact xr_zret dX12_isHidden_143 rfl (x_nz (by decide)).1 ⟨rfl, _, rfl, x_01 (by decide), h⟩
  · have h := hF4 (Int.not_le.mp c)
    refine xr_iload dX12_isHidden_99 rfl ?_
    obtain ⟨q8, hT9, hF10⟩ := h
    refine xr_if_eq (tgt := 128) dX12_isHidden_101 (by decide) q8  (fun c => ?_) (fun c => ?_)
    · have h := hT9 c
      refine xr_iconst dX12_isHidden_128 ?_
      refine xr_istore' (ll' := [some (xr G 74), none, none, some (xi v3), some (xi v4), some (xi v5), none, some (xi 0), some (xi v8)]) dX12_isHidden_129 (by decide) rfl rfl ?_
      refine xr_iinc' (ll' := [some (xr G 74), none, none, some (xi v3), some (xi v4), some (xi v5), none, some (xi 0), some (xi (v8 + 1))]) dX12_isHidden_131 rfl (by decide) rfl rfl ?_
      refine xr_goto (tgt := 90) dX12_isHidden_134 (by decide) ?_
      exact h
    · have h := hF10 c
      refine xr_aload_n dX12_isHidden_104 rfl ?_
      refine xr_getR dX12_isHidden_105 fl_X12_107 L_74 rfl ?_
      refine xr_iload dX12_isHidden_108 rfl ?_
      refine xr_iload dX12_isHidden_110 rfl ?_
      refine xr_iadd dX12_isHidden_112 ?_
      obtain ⟨q11, h⟩ := h
      refine xr_iaload' (v := μ 104 (v5 + v8)) dX12_isHidden_113 L_104 rfl (by decide) q11 rfl ?_
      refine xr_aload_n dX12_isHidden_114 rfl ?_
      refine xr_getR dX12_isHidden_115 fl_X12_101 L_74 rfl ?_
      refine xr_iload dX12_isHidden_118 rfl ?_
      obtain ⟨q12, h⟩ := h
      refine xr_iaload' (v := μ 102 v8) dX12_isHidden_120 L_102 rfl (by decide) q12 rfl ?_
      obtain ⟨q13, q14, hT15, hF16⟩ := h
      refine xr_icmp_ne (tgt := 128) dX12_isHidden_121 (by decide) q13 q14 (fun c => ?_) (fun c => ?_)
      · have h := hT15 c
        refine xr_iconst dX12_isHidden_128 ?_
        refine xr_istore' (ll' := [some (xr G 74), none, none, some (xi v3), some (xi v4), some (xi v5), none, some (xi 0), some (xi v8)]) dX12_isHidden_129 (by decide) rfl rfl ?_
        refine xr_iinc' (ll' := [some (xr G 74), none, none, some (xi v3), some (xi v4), some (xi v5), none, some (xi 0), some (xi (v8 + 1))]) dX12_isHidden_131 rfl (by decide) rfl rfl ?_
        refine xr_goto (tgt := 90) dX12_isHidden_134 (by decide) ?_
        exact h
      · have h := hF16 c
        refine xr_iconst dX12_isHidden_124 ?_
        refine xr_goto (tgt := 129) dX12_isHidden_125 (by decide) ?_
        refine xr_istore' (ll' := [some (xr G 74), none, none, some (xi v3), some (xi v4), some (xi v5), none, some (xi 1), some (xi v8)]) dX12_isHidden_129 (by decide) rfl rfl ?_
        refine xr_iinc' (ll' := [some (xr G 74), none, none, some (xi v3), some (xi v4), some (xi v5), none, some (xi 1), some (xi (v8 + 1))]) dX12_isHidden_131 rfl (by decide) rfl rfl ?_
        refine xr_goto (tgt := 90) dX12_isHidden_134 (by decide) ?_
        exact h
theorem dX12_sayWords_0 : decode cX12_sayWords 0 = .ok (.aload_n 0, 1) := by decide +kernel
theorem dX12_sayWords_1 : decode cX12_sayWords 1 = .ok (.invokevirtual 269, 3) := by decide +kernel
theorem dX12_sayWords_4 : decode cX12_sayWords 4 = .ok (.aload_n 0, 1) := by decide +kernel
theorem dX12_sayWords_5 : decode cX12_sayWords 5 = .ok (.iload_n 1, 1) := by decide +kernel
theorem dX12_sayWords_6 : decode cX12_sayWords 6 = .ok (.invokevirtual 250, 3) := by decide +kernel
theorem dX12_sayWords_9 : decode cX12_sayWords 9 = .ok (.aload_n 0, 1) := by decide +kernel
theorem dX12_sayWords_10 : decode cX12_sayWords 10 = .ok (.bipush 65, 2) := by decide +kernel
theorem dX12_sayWords_12 : decode cX12_sayWords 12 = .ok (.iload_n 2, 1) := by decide +kernel
theorem dX12_sayWords_13 : decode cX12_sayWords 13 = .ok (.iadd, 1) := by decide +kernel
theorem dX12_sayWords_14 : decode cX12_sayWords 14 = .ok (.invokevirtual 250, 3) := by decide +kernel
theorem dX12_sayWords_17 : decode cX12_sayWords 17 = .ok (.aload_n 0, 1) := by decide +kernel
theorem dX12_sayWords_18 : decode cX12_sayWords 18 = .ok (.bipush 40, 2) := by decide +kernel
theorem dX12_sayWords_20 : decode cX12_sayWords 20 = .ok (.invokevirtual 250, 3) := by decide +kernel
theorem dX12_sayWords_23 : decode cX12_sayWords 23 = .ok (.iload_n 3, 1) := by decide +kernel
theorem dX12_sayWords_24 : decode cX12_sayWords 24 = .ok (.istore 5, 2) := by decide +kernel
theorem dX12_sayWords_26 : decode cX12_sayWords 26 = .ok (.iload 5, 2) := by decide +kernel
theorem dX12_sayWords_28 : decode cX12_sayWords 28 = .ok (.iload 4, 2) := by decide +kernel
theorem dX12_sayWords_30 : decode cX12_sayWords 30 = .ok (.if_icmp .gt 18, 3) := by decide +kernel
theorem dX12_sayWords_33 : decode cX12_sayWords 33 = .ok (.aload_n 0, 1) := by decide +kernel
theorem dX12_sayWords_34 : decode cX12_sayWords 34 = .ok (.bipush 65, 2) := by decide +kernel
theorem dX12_sayWords_36 : decode cX12_sayWords 36 = .ok (.iload 5, 2) := by decide +kernel
theorem dX12_sayWords_38 : decode cX12_sayWords 38 = .ok (.iadd, 1) := by decide +kernel
theorem dX12_sayWords_39 : decode cX12_sayWords 39 = .ok (.invokevirtual 250, 3) := by decide +kernel
theorem dX12_sayWords_42 : decode cX12_sayWords 42 = .ok (.iinc 5 1, 3) := by decide +kernel
theorem dX12_sayWords_45 : decode cX12_sayWords 45 = .ok (.goto (-19), 3) := by decide +kernel
theorem dX12_sayWords_48 : decode cX12_sayWords 48 = .ok (.aload_n 0, 1) := by decide +kernel
theorem dX12_sayWords_49 : decode cX12_sayWords 49 = .ok (.bipush 41, 2) := by decide +kernel
theorem dX12_sayWords_51 : decode cX12_sayWords 51 = .ok (.invokevirtual 250, 3) := by decide +kernel
theorem dX12_sayWords_54 : decode cX12_sayWords 54 = .ok (.return_, 1) := by decide +kernel
def K_X12_sayWords_26 (G : xG) (l : Launch) (d : Nat) (P : xMem → Prop) (v4 v5 : Int) (μ : xMem) : Prop := RR G l d 0 0 false mX12_sayWords (qV P) 26 [some (xr G 74), none, none, none, some (xi v4), some (xi v5)] [] LAY μ 0 0
set_option maxRecDepth 20000 in
theorem E_X12_sayWords {G : xG} {l : Launch} {d : Nat} {P : xMem → Prop} {v1 v2 v3 v4 : Int} {μ : xMem} (h : CV G l d mX12_open [xr G 74] μ (fun m2 => CV G l d mX12_say [xr G 74, xi v1] m2 (fun m4 => CV G l d mX12_say [xr G 74, xi (65 + v2)] m4 (fun m6 => CV G l d mX12_say [xr G 74, xi 40] m6 (fun m8 => K_X12_sayWords_26 G l (d + 1) P v4 v3 m8))))) : CV G l (d + 1) mX12_sayWords [xr G 74, xi v1, xi v2, xi v3, xi v4] μ P := by
  refine CC.ofRR (ll := [some (xr G 74), some (xi v1), some (xi v2), some (xi v3), some (xi v4), none]) (by decide +kernel) (Nat.le_of_ble_eq_true rfl) rfl (fun h => by cases h) ?_
  refine xr_aload_n dX12_sayWords_0 rfl ?_
  refine xr_cvV (As := []) dX12_sayWords_1 mi_X12_open ml_X12_269 se_X12_open L_74 rfl rfl rfl (Nat.le_of_ble_eq_true rfl) h (fun m2 h => ?_)
  refine xr_aload_n dX12_sayWords_4 rfl ?_
  refine xr_iload_n dX12_sayWords_5 rfl ?_
  refine xr_cvV (As := [xi v1]) dX12_sayWords_6 mi_X12_say ml_X12_250 se_X12_say L_74 rfl rfl rfl (Nat.le_of_ble_eq_true rfl) h (fun m4 h => ?_)
  refine xr_aload_n dX12_sayWords_9 rfl ?_
  refine xr_bipush dX12_sayWords_10 (by decide) ?_
  refine xr_iload_n dX12_sayWords_12 rfl ?_
  refine xr_iadd dX12_sayWords_13 ?_
  refine xr_cvV (As := [xi (65 + v2)]) dX12_sayWords_14 mi_X12_say ml_X12_250 se_X12_say L_74 rfl rfl rfl (Nat.le_of_ble_eq_true rfl) h (fun m6 h => ?_)
  refine xr_aload_n dX12_sayWords_17 rfl ?_
  refine xr_bipush dX12_sayWords_18 (by decide) ?_
  refine xr_cvV (As := [xi 40]) dX12_sayWords_20 mi_X12_say ml_X12_250 se_X12_say L_74 rfl rfl rfl (Nat.le_of_ble_eq_true rfl) h (fun m8 h => ?_)
  refine xr_iload_n dX12_sayWords_23 rfl ?_
  refine xr_istore' (ll' := [some (xr G 74), some (xi v1), some (xi v2), some (xi v3), some (xi v4), some (xi v3)]) dX12_sayWords_24 (by decide) rfl rfl ?_
  refine xr_wk (ll' := [some (xr G 74), none, none, none, some (xi v4), some (xi v3)]) ⟨rfl, ⟨rfl, ⟨rfl, trivial⟩⟩⟩ ?_
  exact h
set_option maxRecDepth 20000 in
theorem B_X12_sayWords_26 {G : xG} {l : Launch} {d : Nat} {P : xMem → Prop} {v4 v5 : Int} {μ : xMem} (h : (iR v5 ∧ iR v4 ∧ (v4 < v5 → CV G l d mX12_say [xr G 74, xi 41] μ (fun m6 => P m6)) ∧ (v5 ≤ v4 → CV G l d mX12_say [xr G 74, xi (65 + v5)] μ (fun m8 => K_X12_sayWords_26 G l (d + 1) P v4 (v5 + 1) m8)))) : K_X12_sayWords_26 G l (d + 1) P v4 v5 μ := by
  unfold K_X12_sayWords_26
  refine xr_iload dX12_sayWords_26 rfl ?_
  refine xr_iload dX12_sayWords_28 rfl ?_
  obtain ⟨q1, q2, hT3, hF4⟩ := h
  refine xr_icmp_gt (tgt := 48) dX12_sayWords_30 (by decide) q1 q2 (fun c => ?_) (fun c => ?_)
  · have h := hT3 c
    refine xr_aload_n dX12_sayWords_48 rfl ?_
    refine xr_bipush dX12_sayWords_49 (by decide) ?_
    refine xr_cvV (As := [xi 41]) dX12_sayWords_51 mi_X12_say ml_X12_250 se_X12_say L_74 rfl rfl rfl (Nat.le_of_ble_eq_true rfl) h (fun m6 h => ?_)
    exact xr_ret dX12_sayWords_54 rfl ⟨rfl, rfl, h⟩
  · have h := hF4 (Int.not_lt.mp c)
    refine xr_aload_n dX12_sayWords_33 rfl ?_
    refine xr_bipush dX12_sayWords_34 (by decide) ?_
    refine xr_iload dX12_sayWords_36 rfl ?_
    refine xr_iadd dX12_sayWords_38 ?_
    refine xr_cvV (As := [xi (65 + v5)]) dX12_sayWords_39 mi_X12_say ml_X12_250 se_X12_say L_74 rfl rfl rfl (Nat.le_of_ble_eq_true rfl) h (fun m8 h => ?_)
    refine xr_iinc' (ll' := [some (xr G 74), none, none, none, some (xi v4), some (xi (v5 + 1))]) dX12_sayWords_42 rfl (by decide) rfl rfl ?_
    refine xr_goto (tgt := 26) dX12_sayWords_45 (by decide) ?_
    exact h
theorem dX12_bySign_0 : decode cX12_bySign 0 = .ok (.aload_n 0, 1) := by decide +kernel
theorem dX12_bySign_1 : decode cX12_bySign 1 = .ok (.getfield 56, 3) := by decide +kernel
theorem dX12_bySign_4 : decode cX12_bySign 4 = .ok (.aload_n 0, 1) := by decide +kernel
theorem dX12_bySign_5 : decode cX12_bySign 5 = .ok (.getfield 95, 3) := by decide +kernel
theorem dX12_bySign_8 : decode cX12_bySign 8 = .ok (.iload_n 1, 1) := by decide +kernel
theorem dX12_bySign_9 : decode cX12_bySign 9 = .ok (.iaload, 1) := by decide +kernel
theorem dX12_bySign_10 : decode cX12_bySign 10 = .ok (.iaload, 1) := by decide +kernel
theorem dX12_bySign_11 : decode cX12_bySign 11 = .ok (.istore 7, 2) := by decide +kernel
theorem dX12_bySign_13 : decode cX12_bySign 13 = .ok (.iload 7, 2) := by decide +kernel
theorem dX12_bySign_15 : decode cX12_bySign 15 = .ok (.iconst 0, 1) := by decide +kernel
theorem dX12_bySign_16 : decode cX12_bySign 16 = .ok (.ishr, 1) := by decide +kernel
theorem dX12_bySign_17 : decode cX12_bySign 17 = .ok (.iconst 1, 1) := by decide +kernel
theorem dX12_bySign_18 : decode cX12_bySign 18 = .ok (.iand, 1) := by decide +kernel
theorem dX12_bySign_19 : decode cX12_bySign 19 = .ok (.iconst 1, 1) := by decide +kernel
theorem dX12_bySign_20 : decode cX12_bySign 20 = .ok (.if_icmp .ne 27, 3) := by decide +kernel
theorem dX12_bySign_23 : decode cX12_bySign 23 = .ok (.aload_n 0, 1) := by decide +kernel
theorem dX12_bySign_24 : decode cX12_bySign 24 = .ok (.iload_n 2, 1) := by decide +kernel
theorem dX12_bySign_25 : decode cX12_bySign 25 = .ok (.iload_n 3, 1) := by decide +kernel
theorem dX12_bySign_26 : decode cX12_bySign 26 = .ok (.invokevirtual 272, 3) := by decide +kernel
theorem dX12_bySign_29 : decode cX12_bySign 29 = .ok (.ifCond .eq 18, 3) := by decide +kernel
theorem dX12_bySign_32 : decode cX12_bySign 32 = .ok (.aload_n 0, 1) := by decide +kernel
theorem dX12_bySign_33 : decode cX12_bySign 33 = .ok (.bipush 115, 2) := by decide +kernel
theorem dX12_bySign_35 : decode cX12_bySign 35 = .ok (.iload_n 1, 1) := by decide +kernel
theorem dX12_bySign_36 : decode cX12_bySign 36 = .ok (.iload_n 2, 1) := by decide +kernel
theorem dX12_bySign_37 : decode cX12_bySign 37 = .ok (.iload_n 3, 1) := by decide +kernel
theorem dX12_bySign_38 : decode cX12_bySign 38 = .ok (.invokevirtual 276, 3) := by decide +kernel
theorem dX12_bySign_41 : decode cX12_bySign 41 = .ok (.aload_n 0, 1) := by decide +kernel
theorem dX12_bySign_42 : decode cX12_bySign 42 = .ok (.iconst 1, 1) := by decide +kernel
theorem dX12_bySign_43 : decode cX12_bySign 43 = .ok (.iconst 1, 1) := by decide +kernel
theorem dX12_bySign_44 : decode cX12_bySign 44 = .ok (.invokevirtual 280, 3) := by decide +kernel
theorem dX12_bySign_47 : decode cX12_bySign 47 = .ok (.iload 7, 2) := by decide +kernel
theorem dX12_bySign_49 : decode cX12_bySign 49 = .ok (.iconst 1, 1) := by decide +kernel
theorem dX12_bySign_50 : decode cX12_bySign 50 = .ok (.ishr, 1) := by decide +kernel
theorem dX12_bySign_51 : decode cX12_bySign 51 = .ok (.iconst 1, 1) := by decide +kernel
theorem dX12_bySign_52 : decode cX12_bySign 52 = .ok (.iand, 1) := by decide +kernel
theorem dX12_bySign_53 : decode cX12_bySign 53 = .ok (.iconst 1, 1) := by decide +kernel
theorem dX12_bySign_54 : decode cX12_bySign 54 = .ok (.if_icmp .ne 28, 3) := by decide +kernel
theorem dX12_bySign_57 : decode cX12_bySign 57 = .ok (.aload_n 0, 1) := by decide +kernel
theorem dX12_bySign_58 : decode cX12_bySign 58 = .ok (.iload_n 2, 1) := by decide +kernel
theorem dX12_bySign_59 : decode cX12_bySign 59 = .ok (.iload_n 3, 1) := by decide +kernel
theorem dX12_bySign_60 : decode cX12_bySign 60 = .ok (.iconst 1, 1) := by decide +kernel
theorem dX12_bySign_61 : decode cX12_bySign 61 = .ok (.invokevirtual 283, 3) := by decide +kernel
theorem dX12_bySign_64 : decode cX12_bySign 64 = .ok (.ifCond .eq 18, 3) := by decide +kernel
theorem dX12_bySign_67 : decode cX12_bySign 67 = .ok (.aload_n 0, 1) := by decide +kernel
theorem dX12_bySign_68 : decode cX12_bySign 68 = .ok (.bipush 102, 2) := by decide +kernel
theorem dX12_bySign_70 : decode cX12_bySign 70 = .ok (.iload_n 1, 1) := by decide +kernel
theorem dX12_bySign_71 : decode cX12_bySign 71 = .ok (.iload_n 2, 1) := by decide +kernel
theorem dX12_bySign_72 : decode cX12_bySign 72 = .ok (.iload_n 3, 1) := by decide +kernel
theorem dX12_bySign_73 : decode cX12_bySign 73 = .ok (.invokevirtual 276, 3) := by decide +kernel
theorem dX12_bySign_76 : decode cX12_bySign 76 = .ok (.aload_n 0, 1) := by decide +kernel
theorem dX12_bySign_77 : decode cX12_bySign 77 = .ok (.iconst 1, 1) := by decide +kernel
theorem dX12_bySign_78 : decode cX12_bySign 78 = .ok (.iconst 1, 1) := by decide +kernel
theorem dX12_bySign_79 : decode cX12_bySign 79 = .ok (.invokevirtual 280, 3) := by decide +kernel
theorem dX12_bySign_82 : decode cX12_bySign 82 = .ok (.iload 7, 2) := by decide +kernel
theorem dX12_bySign_84 : decode cX12_bySign 84 = .ok (.iconst 2, 1) := by decide +kernel
theorem dX12_bySign_85 : decode cX12_bySign 85 = .ok (.ishr, 1) := by decide +kernel
theorem dX12_bySign_86 : decode cX12_bySign 86 = .ok (.iconst 1, 1) := by decide +kernel
theorem dX12_bySign_87 : decode cX12_bySign 87 = .ok (.iand, 1) := by decide +kernel
theorem dX12_bySign_88 : decode cX12_bySign 88 = .ok (.iconst 1, 1) := by decide +kernel
theorem dX12_bySign_89 : decode cX12_bySign 89 = .ok (.if_icmp .ne 28, 3) := by decide +kernel
theorem dX12_bySign_92 : decode cX12_bySign 92 = .ok (.aload_n 0, 1) := by decide +kernel
theorem dX12_bySign_93 : decode cX12_bySign 93 = .ok (.iload_n 2, 1) := by decide +kernel
theorem dX12_bySign_94 : decode cX12_bySign 94 = .ok (.iload_n 3, 1) := by decide +kernel
theorem dX12_bySign_95 : decode cX12_bySign 95 = .ok (.iconst 0, 1) := by decide +kernel
theorem dX12_bySign_96 : decode cX12_bySign 96 = .ok (.invokevirtual 283, 3) := by decide +kernel
theorem dX12_bySign_99 : decode cX12_bySign 99 = .ok (.ifCond .eq 18, 3) := by decide +kernel
theorem dX12_bySign_102 : decode cX12_bySign 102 = .ok (.aload_n 0, 1) := by decide +kernel
theorem dX12_bySign_103 : decode cX12_bySign 103 = .ok (.bipush 101, 2) := by decide +kernel
theorem dX12_bySign_105 : decode cX12_bySign 105 = .ok (.iload_n 1, 1) := by decide +kernel
theorem dX12_bySign_106 : decode cX12_bySign 106 = .ok (.iload_n 2, 1) := by decide +kernel
theorem dX12_bySign_107 : decode cX12_bySign 107 = .ok (.iload_n 3, 1) := by decide +kernel
theorem dX12_bySign_108 : decode cX12_bySign 108 = .ok (.invokevirtual 276, 3) := by decide +kernel
theorem dX12_bySign_111 : decode cX12_bySign 111 = .ok (.aload_n 0, 1) := by decide +kernel
theorem dX12_bySign_112 : decode cX12_bySign 112 = .ok (.iconst 1, 1) := by decide +kernel
theorem dX12_bySign_113 : decode cX12_bySign 113 = .ok (.iconst 1, 1) := by decide +kernel
theorem dX12_bySign_114 : decode cX12_bySign 114 = .ok (.invokevirtual 280, 3) := by decide +kernel
theorem dX12_bySign_117 : decode cX12_bySign 117 = .ok (.iload 7, 2) := by decide +kernel
theorem dX12_bySign_119 : decode cX12_bySign 119 = .ok (.iconst 3, 1) := by decide +kernel
theorem dX12_bySign_120 : decode cX12_bySign 120 = .ok (.ishr, 1) := by decide +kernel
theorem dX12_bySign_121 : decode cX12_bySign 121 = .ok (.iconst 1, 1) := by decide +kernel
theorem dX12_bySign_122 : decode cX12_bySign 122 = .ok (.iand, 1) := by decide +kernel
theorem dX12_bySign_123 : decode cX12_bySign 123 = .ok (.iconst 1, 1) := by decide +kernel
theorem dX12_bySign_124 : decode cX12_bySign 124 = .ok (.if_icmp .ne 27, 3) := by decide +kernel
theorem dX12_bySign_127 : decode cX12_bySign 127 = .ok (.aload_n 0, 1) := by decide +kernel
theorem dX12_bySign_128 : decode cX12_bySign 128 = .ok (.iload_n 2, 1) := by decide +kernel
theorem dX12_bySign_129 : decode cX12_bySign 129 = .ok (.iload_n 3, 1) := by decide +kernel
theorem dX12_bySign_130 : decode cX12_bySign 130 = .ok (.invokevirtual 287, 3) := by decide +kernel
theorem dX12_bySign_133 : decode cX12_bySign 133 = .ok (.ifCond .eq 18, 3) := by decide +kernel
theorem dX12_bySign_136 : decode cX12_bySign 136 = .ok (.aload_n 0, 1) := by decide +kernel
theorem dX12_bySign_137 : decode cX12_bySign 137 = .ok (.bipush 104, 2) := by decide +kernel
theorem dX12_bySign_139 : decode cX12_bySign 139 = .ok (.iload_n 1, 1) := by decide +kernel
theorem dX12_bySign_140 : decode cX12_bySign 140 = .ok (.iload_n 2, 1) := by decide +kernel
theorem dX12_bySign_141 : decode cX12_bySign 141 = .ok (.iload_n 3, 1) := by decide +kernel
theorem dX12_bySign_142 : decode cX12_bySign 142 = .ok (.invokevirtual 276, 3) := by decide +kernel
theorem dX12_bySign_145 : decode cX12_bySign 145 = .ok (.aload_n 0, 1) := by decide +kernel
theorem dX12_bySign_146 : decode cX12_bySign 146 = .ok (.iconst 1, 1) := by decide +kernel
theorem dX12_bySign_147 : decode cX12_bySign 147 = .ok (.iconst 1, 1) := by decide +kernel
theorem dX12_bySign_148 : decode cX12_bySign 148 = .ok (.invokevirtual 280, 3) := by decide +kernel
theorem dX12_bySign_151 : decode cX12_bySign 151 = .ok (.iload_n 2, 1) := by decide +kernel
theorem dX12_bySign_152 : decode cX12_bySign 152 = .ok (.iload_n 3, 1) := by decide +kernel
theorem dX12_bySign_153 : decode cX12_bySign 153 = .ok (.iload 4, 2) := by decide +kernel
theorem dX12_bySign_155 : decode cX12_bySign 155 = .ok (.iload 5, 2) := by decide +kernel
theorem dX12_bySign_157 : decode cX12_bySign 157 = .ok (.iconst 1, 1) := by decide +kernel
theorem dX12_bySign_158 : decode cX12_bySign 158 = .ok (.iload 6, 2) := by decide +kernel
theorem dX12_bySign_160 : decode cX12_bySign 160 = .ok (.isub, 1) := by decide +kernel
theorem dX12_bySign_161 : decode cX12_bySign 161 = .ok (.invokestatic 290, 3) := by decide +kernel
theorem dX12_bySign_164 : decode cX12_bySign 164 = .ok (.istore 8, 2) := by decide +kernel
theorem dX12_bySign_166 : decode cX12_bySign 166 = .ok (.iload 7, 2) := by decide +kernel
theorem dX12_bySign_168 : decode cX12_bySign 168 = .ok (.iconst 4, 1) := by decide +kernel
theorem dX12_bySign_169 : decode cX12_bySign 169 = .ok (.ishr, 1) := by decide +kernel
theorem dX12_bySign_170 : decode cX12_bySign 170 = .ok (.iconst 1, 1) := by decide +kernel
theorem dX12_bySign_171 : decode cX12_bySign 171 = .ok (.iand, 1) := by decide +kernel
theorem dX12_bySign_172 : decode cX12_bySign 172 = .ok (.iconst 1, 1) := by decide +kernel
theorem dX12_bySign_173 : decode cX12_bySign 173 = .ok (.if_icmp .ne 69, 3) := by decide +kernel
theorem dX12_bySign_176 : decode cX12_bySign 176 = .ok (.aload_n 0, 1) := by decide +kernel
theorem dX12_bySign_177 : decode cX12_bySign 177 = .ok (.getfield 79, 3) := by decide +kernel
theorem dX12_bySign_180 : decode cX12_bySign 180 = .ok (.iload 8, 2) := by decide +kernel
theorem dX12_bySign_182 : decode cX12_bySign 182 = .ok (.iaload, 1) := by decide +kernel
theorem dX12_bySign_183 : decode cX12_bySign 183 = .ok (.ifCond .le 59, 3) := by decide +kernel
theorem dX12_bySign_186 : decode cX12_bySign 186 = .ok (.aload_n 0, 1) := by decide +kernel
theorem dX12_bySign_187 : decode cX12_bySign 187 = .ok (.invokevirtual 269, 3) := by decide +kernel
theorem dX12_bySign_190 : decode cX12_bySign 190 = .ok (.aload_n 0, 1) := by decide +kernel
theorem dX12_bySign_191 : decode cX12_bySign 191 = .ok (.bipush 116, 2) := by decide +kernel
theorem dX12_bySign_193 : decode cX12_bySign 193 = .ok (.invokevirtual 250, 3) := by decide +kernel
theorem dX12_bySign_196 : decode cX12_bySign 196 = .ok (.aload_n 0, 1) := by decide +kernel
theorem dX12_bySign_197 : decode cX12_bySign 197 = .ok (.bipush 65, 2) := by decide +kernel
theorem dX12_bySign_199 : decode cX12_bySign 199 = .ok (.iload_n 1, 1) := by decide +kernel
theorem dX12_bySign_200 : decode cX12_bySign 200 = .ok (.iadd, 1) := by decide +kernel
theorem dX12_bySign_201 : decode cX12_bySign 201 = .ok (.invokevirtual 250, 3) := by decide +kernel
theorem dX12_bySign_204 : decode cX12_bySign 204 = .ok (.aload_n 0, 1) := by decide +kernel
theorem dX12_bySign_205 : decode cX12_bySign 205 = .ok (.bipush 40, 2) := by decide +kernel
theorem dX12_bySign_207 : decode cX12_bySign 207 = .ok (.invokevirtual 250, 3) := by decide +kernel
theorem dX12_bySign_210 : decode cX12_bySign 210 = .ok (.aload_n 0, 1) := by decide +kernel
theorem dX12_bySign_211 : decode cX12_bySign 211 = .ok (.iload 8, 2) := by decide +kernel
theorem dX12_bySign_213 : decode cX12_bySign 213 = .ok (.invokevirtual 294, 3) := by decide +kernel
theorem dX12_bySign_216 : decode cX12_bySign 216 = .ok (.aload_n 0, 1) := by decide +kernel
theorem dX12_bySign_217 : decode cX12_bySign 217 = .ok (.bipush 41, 2) := by decide +kernel
theorem dX12_bySign_219 : decode cX12_bySign 219 = .ok (.invokevirtual 250, 3) := by decide +kernel
theorem dX12_bySign_222 : decode cX12_bySign 222 = .ok (.aload_n 0, 1) := by decide +kernel
theorem dX12_bySign_223 : decode cX12_bySign 223 = .ok (.aload_n 0, 1) := by decide +kernel
theorem dX12_bySign_224 : decode cX12_bySign 224 = .ok (.getfield 79, 3) := by decide +kernel
theorem dX12_bySign_227 : decode cX12_bySign 227 = .ok (.iload 8, 2) := by decide +kernel
theorem dX12_bySign_229 : decode cX12_bySign 229 = .ok (.iaload, 1) := by decide +kernel
theorem dX12_bySign_230 : decode cX12_bySign 230 = .ok (.iconst 1, 1) := by decide +kernel
theorem dX12_bySign_231 : decode cX12_bySign 231 = .ok (.aload_n 0, 1) := by decide +kernel
theorem dX12_bySign_232 : decode cX12_bySign 232 = .ok (.getfield 82, 3) := by decide +kernel
theorem dX12_bySign_235 : decode cX12_bySign 235 = .ok (.iload 8, 2) := by decide +kernel
theorem dX12_bySign_237 : decode cX12_bySign 237 = .ok (.iaload, 1) := by decide +kernel
theorem dX12_bySign_238 : decode cX12_bySign 238 = .ok (.iadd, 1) := by decide +kernel
theorem dX12_bySign_239 : decode cX12_bySign 239 = .ok (.invokevirtual 280, 3) := by decide +kernel
theorem dX12_bySign_242 : decode cX12_bySign 242 = .ok (.iload_n 2, 1) := by decide +kernel
theorem dX12_bySign_243 : decode cX12_bySign 243 = .ok (.iload_n 3, 1) := by decide +kernel
theorem dX12_bySign_244 : decode cX12_bySign 244 = .ok (.if_icmp .ne 23, 3) := by decide +kernel
theorem dX12_bySign_247 : decode cX12_bySign 247 = .ok (.iload 7, 2) := by decide +kernel
theorem dX12_bySign_249 : decode cX12_bySign 249 = .ok (.iconst 5, 1) := by decide +kernel
theorem dX12_bySign_250 : decode cX12_bySign 250 = .ok (.ishr, 1) := by decide +kernel
theorem dX12_bySign_251 : decode cX12_bySign 251 = .ok (.iconst 1, 1) := by decide +kernel
theorem dX12_bySign_252 : decode cX12_bySign 252 = .ok (.iand, 1) := by decide +kernel
theorem dX12_bySign_253 : decode cX12_bySign 253 = .ok (.iconst 1, 1) := by decide +kernel
theorem dX12_bySign_254 : decode cX12_bySign 254 = .ok (.if_icmp .ne 13, 3) := by decide +kernel
theorem dX12_bySign_257 : decode cX12_bySign 257 = .ok (.aload_n 0, 1) := by decide +kernel
theorem dX12_bySign_258 : decode cX12_bySign 258 = .ok (.bipush 98, 2) := by decide +kernel
theorem dX12_bySign_260 : decode cX12_bySign 260 = .ok (.iload_n 1, 1) := by decide +kernel
theorem dX12_bySign_261 : decode cX12_bySign 261 = .ok (.iload_n 2, 1) := by decide +kernel
theorem dX12_bySign_262 : decode cX12_bySign 262 = .ok (.iconst 1, 1) := by decide +kernel
theorem dX12_bySign_263 : decode cX12_bySign 263 = .ok (.iconst 0, 1) := by decide +kernel
theorem dX12_bySign_264 : decode cX12_bySign 264 = .ok (.invokevirtual 297, 3) := by decide +kernel
theorem dX12_bySign_267 : decode cX12_bySign 267 = .ok (.iload_n 2, 1) := by decide +kernel
theorem dX12_bySign_268 : decode cX12_bySign 268 = .ok (.iload_n 3, 1) := by decide +kernel
theorem dX12_bySign_269 : decode cX12_bySign 269 = .ok (.if_icmp .ne 24, 3) := by decide +kernel
theorem dX12_bySign_272 : decode cX12_bySign 272 = .ok (.iload 7, 2) := by decide +kernel
theorem dX12_bySign_274 : decode cX12_bySign 274 = .ok (.bipush 6, 2) := by decide +kernel
theorem dX12_bySign_276 : decode cX12_bySign 276 = .ok (.ishr, 1) := by decide +kernel
theorem dX12_bySign_277 : decode cX12_bySign 277 = .ok (.iconst 1, 1) := by decide +kernel
theorem dX12_bySign_278 : decode cX12_bySign 278 = .ok (.iand, 1) := by decide +kernel
theorem dX12_bySign_279 : decode cX12_bySign 279 = .ok (.iconst 1, 1) := by decide +kernel
theorem dX12_bySign_280 : decode cX12_bySign 280 = .ok (.if_icmp .ne 13, 3) := by decide +kernel
theorem dX12_bySign_283 : decode cX12_bySign 283 = .ok (.aload_n 0, 1) := by decide +kernel
theorem dX12_bySign_284 : decode cX12_bySign 284 = .ok (.bipush 99, 2) := by decide +kernel
theorem dX12_bySign_286 : decode cX12_bySign 286 = .ok (.iload_n 1, 1) := by decide +kernel
theorem dX12_bySign_287 : decode cX12_bySign 287 = .ok (.iload_n 2, 1) := by decide +kernel
theorem dX12_bySign_288 : decode cX12_bySign 288 = .ok (.iconst 0, 1) := by decide +kernel
theorem dX12_bySign_289 : decode cX12_bySign 289 = .ok (.iconst 1, 1) := by decide +kernel
theorem dX12_bySign_290 : decode cX12_bySign 290 = .ok (.invokevirtual 297, 3) := by decide +kernel
theorem dX12_bySign_293 : decode cX12_bySign 293 = .ok (.return_, 1) := by decide +kernel
def K_X12_bySign_47 (G : xG) (l : Launch) (d : Nat) (P : xMem → Prop) (v1 v2 v3 v4 v5 v6 v7 : Int) (μ : xMem) : Prop := RR G l d 0 0 false mX12_bySign (qV P) 47 [some (xr G 74), some (xi v1), some (xi v2), some (xi v3), some (xi v4), some (xi v5), some (xi v6), some (xi v7), none] [] LAY μ 0 0
def K_X12_bySign_82 (G : xG) (l : Launch) (d : Nat) (P : xMem → Prop) (v1 v2 v3 v4 v5 v6 v7 : Int) (μ : xMem) : Prop := RR G l d 0 0 false mX12_bySign (qV P) 82 [some (xr G 74), some (xi v1), some (xi v2), some (xi v3), some (xi v4), some (xi v5), some (xi v6), some (xi v7), none] [] LAY μ 0 0
def K_X12_bySign_117 (G : xG) (l : Launch) (d : Nat) (P : xMem → Prop) (v1 v2 v3 v4 v5 v6 v7 : Int) (μ : xMem) : Prop := RR G l d 0 0 false mX12_bySign (qV P) 117 [some (xr G 74), some (xi v1), some (xi v2), some (xi v3), some (xi v4), some (xi v5), some (xi v6), some (xi v7), none] [] LAY μ 0 0
def K_X12_bySign_151 (G : xG) (l : Launch) (d : Nat) (P : xMem → Prop) (v1 v2 v3 v4 v5 v6 v7 : Int) (μ : xMem) : Prop := RR G l d 0 0 false mX12_bySign (qV P) 151 [some (xr G 74), some (xi v1), some (xi v2), some (xi v3), some (xi v4), some (xi v5), some (xi v6), some (xi v7), none] [] LAY μ 0 0
def K_X12_bySign_242 (G : xG) (l : Launch) (d : Nat) (P : xMem → Prop) (v1 v2 v3 v7 : Int) (μ : xMem) : Prop := RR G l d 0 0 false mX12_bySign (qV P) 242 [some (xr G 74), some (xi v1), some (xi v2), some (xi v3), none, none, none, some (xi v7), none] [] LAY μ 0 0
def K_X12_bySign_267 (G : xG) (l : Launch) (d : Nat) (P : xMem → Prop) (v1 v2 v3 v7 : Int) (μ : xMem) : Prop := RR G l d 0 0 false mX12_bySign (qV P) 267 [some (xr G 74), some (xi v1), some (xi v2), some (xi v3), none, none, none, some (xi v7), none] [] LAY μ 0 0
set_option maxRecDepth 20000 in
theorem E_X12_bySign {G : xG} {l : Launch} {d : Nat} {P : xMem → Prop} {v1 v2 v3 v4 v5 v6 : Int} {μ : xMem} (h : ((0 ≤ v1 ∧ v1 < 8) ∧ ((0 ≤ μ 100 v1 ∧ μ 100 v1 < 120) ∧ (((jand (jshr (μ 90 (μ 100 v1)) 0) 1) ≠ 1 → K_X12_bySign_47 G l (d + 1) P v1 v2 v3 v4 v5 v6 (μ 90 (μ 100 v1)) μ) ∧ ((jand (jshr (μ 90 (μ 100 v1)) 0) 1) = 1 → CI G l d mX12_isShuffled [xr G 74, xi v2, xi v3] μ (fun r5 m6 => ((r5 = 0 → K_X12_bySign_47 G l (d + 1) P v1 v2 v3 v4 v5 v6 (μ 90 (μ 100 v1)) m6) ∧ (r5 ≠ 0 → CV G l d mX12_sayWords [xr G 74, xi 115, xi v1, xi v2, xi v3] m6 (fun m10 => CV G l d mX12_offer [xr G 74, xi 1, xi 1] m10 (fun m12 => K_X12_bySign_47 G l (d + 1) P v1 v2 v3 v4 v5 v6 (μ 90 (μ 100 v1)) m12)))))))))) : CV G l (d + 1) mX12_bySign [xr G 74, xi v1, xi v2, xi v3, xi v4, xi v5, xi v6] μ P := by
  refine CC.ofRR (ll := [some (xr G 74), some (xi v1), some (xi v2), some (xi v3), some (xi v4), some (xi v5), some (xi v6), none, none]) (by decide +kernel) (Nat.le_of_ble_eq_true rfl) rfl (fun h => by cases h) ?_
  refine xr_aload_n dX12_bySign_0 rfl ?_
  refine xr_getR dX12_bySign_1 fl_X12_56 L_74 rfl ?_
  refine xr_aload_n dX12_bySign_4 rfl ?_
  refine xr_getR dX12_bySign_5 fl_X12_95 L_74 rfl ?_
  refine xr_iload_n dX12_bySign_8 rfl ?_
  obtain ⟨q1, h⟩ := h
  refine xr_iaload' (v := μ 100 v1) dX12_bySign_9 L_100 rfl (by decide) q1 rfl ?_
  obtain ⟨q2, h⟩ := h
  refine xr_iaload' (v := μ 90 (μ 100 v1)) dX12_bySign_10 L_90 rfl (by decide) q2 rfl ?_
  refine xr_istore' (ll' := [some (xr G 74), some (xi v1), some (xi v2), some (xi v3), some (xi v4), some (xi v5), some (xi v6), some (xi (μ 90 (μ 100 v1))), none]) dX12_bySign_11 (by decide) rfl rfl ?_
  refine xr_iload dX12_bySign_13 rfl ?_
  refine xr_iconst dX12_bySign_15 ?_
  refine xr_ishr dX12_bySign_16 ?_
  refine xr_iconst dX12_bySign_17 ?_
  refine xr_iand dX12_bySign_18 ?_
  refine xr_iconst dX12_bySign_19 ?_
  obtain ⟨hT3, hF4⟩ := h
  refine xr_icmp_ne (tgt := 47) dX12_bySign_20 (by decide) (jR_and _ _) (by decide) (fun c => ?_) (fun c => ?_)
  · have h := hT3 c
    exact h
  · have h := hF4 c
    refine xr_aload_n dX12_bySign_23 rfl ?_
    refine xr_iload_n dX12_bySign_24 rfl ?_
    refine xr_iload_n dX12_bySign_25 rfl ?_
    refine xr_cvI (As := [xi v2, xi v3]) dX12_bySign_26 mi_X12_isShuffled ml_X12_272 se_X12_isShuffled L_74 rfl rfl rfl (Nat.le_of_ble_eq_true rfl) h (fun r5 m6 hr5 h => ?_)
    obtain ⟨hT7, hF8⟩ := h
    refine xr_if_eq (tgt := 47) dX12_bySign_29 (by decide) hr5  (fun c => ?_) (fun c => ?_)
    · have h := hT7 c
      exact h
    · have h := hF8 c
      refine xr_aload_n dX12_bySign_32 rfl ?_
      refine xr_bipush dX12_bySign_33 (by decide) ?_
      refine xr_iload_n dX12_bySign_35 rfl ?_
      refine xr_iload_n dX12_bySign_36 rfl ?_
      refine xr_iload_n dX12_bySign_37 rfl ?_
      refine xr_cvV (As := [xi 115, xi v1, xi v2, xi v3]) dX12_bySign_38 mi_X12_sayWords ml_X12_276 se_X12_sayWords L_74 rfl rfl rfl (Nat.le_of_ble_eq_true rfl) h (fun m10 h => ?_)
      refine xr_aload_n dX12_bySign_41 rfl ?_
      refine xr_iconst dX12_bySign_42 ?_
      refine xr_iconst dX12_bySign_43 ?_
      refine xr_cvV (As := [xi 1, xi 1]) dX12_bySign_44 mi_X12_offer ml_X12_280 se_X12_offer L_74 rfl rfl rfl (Nat.le_of_ble_eq_true rfl) h (fun m12 h => ?_)
      exact h
set_option maxRecDepth 20000 in
theorem B_X12_bySign_47 {G : xG} {l : Launch} {d : Nat} {P : xMem → Prop} {v1 v2 v3 v4 v5 v6 v7 : Int} {μ : xMem} (h : (((jand (jshr v7 1) 1) ≠ 1 → K_X12_bySign_82 G l (d + 1) P v1 v2 v3 v4 v5 v6 v7 μ) ∧ ((jand (jshr v7 1) 1) = 1 → CI G l d mX12_areEnds [xr G 74, xi v2, xi v3, xi 1] μ (fun r3 m4 => ((r3 = 0 → K_X12_bySign_82 G l (d + 1) P v1 v2 v3 v4 v5 v6 v7 m4) ∧ (r3 ≠ 0 → CV G l d mX12_sayWords [xr G 74, xi 102, xi v1, xi v2, xi v3] m4 (fun m8 => CV G l d mX12_offer [xr G 74, xi 1, xi 1] m8 (fun m10 => K_X12_bySign_82 G l (d + 1) P v1 v2 v3 v4 v5 v6 v7 m10)))))))) : K_X12_bySign_47 G l (d + 1) P v1 v2 v3 v4 v5 v6 v7 μ := by
  unfold K_X12_bySign_47
  refine xr_iload dX12_bySign_47 rfl ?_
  refine xr_iconst dX12_bySign_49 ?_
  refine xr_ishr dX12_bySign_50 ?_
  refine xr_iconst dX12_bySign_51 ?_
  refine xr_iand dX12_bySign_52 ?_
  refine xr_iconst dX12_bySign_53 ?_
  obtain ⟨hT1, hF2⟩ := h
  refine xr_icmp_ne (tgt := 82) dX12_bySign_54 (by decide) (jR_and _ _) (by decide) (fun c => ?_) (fun c => ?_)
  · have h := hT1 c
    exact h
  · have h := hF2 c
    refine xr_aload_n dX12_bySign_57 rfl ?_
    refine xr_iload_n dX12_bySign_58 rfl ?_
    refine xr_iload_n dX12_bySign_59 rfl ?_
    refine xr_iconst dX12_bySign_60 ?_
    refine xr_cvI (As := [xi v2, xi v3, xi 1]) dX12_bySign_61 mi_X12_areEnds ml_X12_283 se_X12_areEnds L_74 rfl rfl rfl (Nat.le_of_ble_eq_true rfl) h (fun r3 m4 hr3 h => ?_)
    obtain ⟨hT5, hF6⟩ := h
    refine xr_if_eq (tgt := 82) dX12_bySign_64 (by decide) hr3  (fun c => ?_) (fun c => ?_)
    · have h := hT5 c
      exact h
    · have h := hF6 c
      refine xr_aload_n dX12_bySign_67 rfl ?_
      refine xr_bipush dX12_bySign_68 (by decide) ?_
      refine xr_iload_n dX12_bySign_70 rfl ?_
      refine xr_iload_n dX12_bySign_71 rfl ?_
      refine xr_iload_n dX12_bySign_72 rfl ?_
      refine xr_cvV (As := [xi 102, xi v1, xi v2, xi v3]) dX12_bySign_73 mi_X12_sayWords ml_X12_276 se_X12_sayWords L_74 rfl rfl rfl (Nat.le_of_ble_eq_true rfl) h (fun m8 h => ?_)
      refine xr_aload_n dX12_bySign_76 rfl ?_
      refine xr_iconst dX12_bySign_77 ?_
      refine xr_iconst dX12_bySign_78 ?_
      refine xr_cvV (As := [xi 1, xi 1]) dX12_bySign_79 mi_X12_offer ml_X12_280 se_X12_offer L_74 rfl rfl rfl (Nat.le_of_ble_eq_true rfl) h (fun m10 h => ?_)
      exact h
set_option maxRecDepth 20000 in
theorem B_X12_bySign_82 {G : xG} {l : Launch} {d : Nat} {P : xMem → Prop} {v1 v2 v3 v4 v5 v6 v7 : Int} {μ : xMem} (h : (((jand (jshr v7 2) 1) ≠ 1 → K_X12_bySign_117 G l (d + 1) P v1 v2 v3 v4 v5 v6 v7 μ) ∧ ((jand (jshr v7 2) 1) = 1 → CI G l d mX12_areEnds [xr G 74, xi v2, xi v3, xi 0] μ (fun r3 m4 => ((r3 = 0 → K_X12_bySign_117 G l (d + 1) P v1 v2 v3 v4 v5 v6 v7 m4) ∧ (r3 ≠ 0 → CV G l d mX12_sayWords [xr G 74, xi 101, xi v1, xi v2, xi v3] m4 (fun m8 => CV G l d mX12_offer [xr G 74, xi 1, xi 1] m8 (fun m10 => K_X12_bySign_117 G l (d + 1) P v1 v2 v3 v4 v5 v6 v7 m10)))))))) : K_X12_bySign_82 G l (d + 1) P v1 v2 v3 v4 v5 v6 v7 μ := by
  unfold K_X12_bySign_82
  refine xr_iload dX12_bySign_82 rfl ?_
  refine xr_iconst dX12_bySign_84 ?_
  refine xr_ishr dX12_bySign_85 ?_
  refine xr_iconst dX12_bySign_86 ?_
  refine xr_iand dX12_bySign_87 ?_
  refine xr_iconst dX12_bySign_88 ?_
  obtain ⟨hT1, hF2⟩ := h
  refine xr_icmp_ne (tgt := 117) dX12_bySign_89 (by decide) (jR_and _ _) (by decide) (fun c => ?_) (fun c => ?_)
  · have h := hT1 c
    exact h
  · have h := hF2 c
    refine xr_aload_n dX12_bySign_92 rfl ?_
    refine xr_iload_n dX12_bySign_93 rfl ?_
    refine xr_iload_n dX12_bySign_94 rfl ?_
    refine xr_iconst dX12_bySign_95 ?_
    refine xr_cvI (As := [xi v2, xi v3, xi 0]) dX12_bySign_96 mi_X12_areEnds ml_X12_283 se_X12_areEnds L_74 rfl rfl rfl (Nat.le_of_ble_eq_true rfl) h (fun r3 m4 hr3 h => ?_)
    obtain ⟨hT5, hF6⟩ := h
    refine xr_if_eq (tgt := 117) dX12_bySign_99 (by decide) hr3  (fun c => ?_) (fun c => ?_)
    · have h := hT5 c
      exact h
    · have h := hF6 c
      refine xr_aload_n dX12_bySign_102 rfl ?_
      refine xr_bipush dX12_bySign_103 (by decide) ?_
      refine xr_iload_n dX12_bySign_105 rfl ?_
      refine xr_iload_n dX12_bySign_106 rfl ?_
      refine xr_iload_n dX12_bySign_107 rfl ?_
      refine xr_cvV (As := [xi 101, xi v1, xi v2, xi v3]) dX12_bySign_108 mi_X12_sayWords ml_X12_276 se_X12_sayWords L_74 rfl rfl rfl (Nat.le_of_ble_eq_true rfl) h (fun m8 h => ?_)
      refine xr_aload_n dX12_bySign_111 rfl ?_
      refine xr_iconst dX12_bySign_112 ?_
      refine xr_iconst dX12_bySign_113 ?_
      refine xr_cvV (As := [xi 1, xi 1]) dX12_bySign_114 mi_X12_offer ml_X12_280 se_X12_offer L_74 rfl rfl rfl (Nat.le_of_ble_eq_true rfl) h (fun m10 h => ?_)
      exact h
set_option maxRecDepth 20000 in
theorem B_X12_bySign_117 {G : xG} {l : Launch} {d : Nat} {P : xMem → Prop} {v1 v2 v3 v4 v5 v6 v7 : Int} {μ : xMem} (h : (((jand (jshr v7 3) 1) ≠ 1 → K_X12_bySign_151 G l (d + 1) P v1 v2 v3 v4 v5 v6 v7 μ) ∧ ((jand (jshr v7 3) 1) = 1 → CI G l d mX12_isHidden [xr G 74, xi v2, xi v3] μ (fun r3 m4 => ((r3 = 0 → K_X12_bySign_151 G l (d + 1) P v1 v2 v3 v4 v5 v6 v7 m4) ∧ (r3 ≠ 0 → CV G l d mX12_sayWords [xr G 74, xi 104, xi v1, xi v2, xi v3] m4 (fun m8 => CV G l d mX12_offer [xr G 74, xi 1, xi 1] m8 (fun m10 => K_X12_bySign_151 G l (d + 1) P v1 v2 v3 v4 v5 v6 v7 m10)))))))) : K_X12_bySign_117 G l (d + 1) P v1 v2 v3 v4 v5 v6 v7 μ := by
  unfold K_X12_bySign_117
  refine xr_iload dX12_bySign_117 rfl ?_
  refine xr_iconst dX12_bySign_119 ?_
  refine xr_ishr dX12_bySign_120 ?_
  refine xr_iconst dX12_bySign_121 ?_
  refine xr_iand dX12_bySign_122 ?_
  refine xr_iconst dX12_bySign_123 ?_
  obtain ⟨hT1, hF2⟩ := h
  refine xr_icmp_ne (tgt := 151) dX12_bySign_124 (by decide) (jR_and _ _) (by decide) (fun c => ?_) (fun c => ?_)
  · have h := hT1 c
    exact h
  · have h := hF2 c
    refine xr_aload_n dX12_bySign_127 rfl ?_
    refine xr_iload_n dX12_bySign_128 rfl ?_
    refine xr_iload_n dX12_bySign_129 rfl ?_
    refine xr_cvI (As := [xi v2, xi v3]) dX12_bySign_130 mi_X12_isHidden ml_X12_287 se_X12_isHidden L_74 rfl rfl rfl (Nat.le_of_ble_eq_true rfl) h (fun r3 m4 hr3 h => ?_)
    obtain ⟨hT5, hF6⟩ := h
    refine xr_if_eq (tgt := 151) dX12_bySign_133 (by decide) hr3  (fun c => ?_) (fun c => ?_)
    · have h := hT5 c
      exact h
    · have h := hF6 c
      refine xr_aload_n dX12_bySign_136 rfl ?_
      refine xr_bipush dX12_bySign_137 (by decide) ?_
      refine xr_iload_n dX12_bySign_139 rfl ?_
      refine xr_iload_n dX12_bySign_140 rfl ?_
      refine xr_iload_n dX12_bySign_141 rfl ?_
      refine xr_cvV (As := [xi 104, xi v1, xi v2, xi v3]) dX12_bySign_142 mi_X12_sayWords ml_X12_276 se_X12_sayWords L_74 rfl rfl rfl (Nat.le_of_ble_eq_true rfl) h (fun m8 h => ?_)
      refine xr_aload_n dX12_bySign_145 rfl ?_
      refine xr_iconst dX12_bySign_146 ?_
      refine xr_iconst dX12_bySign_147 ?_
      refine xr_cvV (As := [xi 1, xi 1]) dX12_bySign_148 mi_X12_offer ml_X12_280 se_X12_offer L_74 rfl rfl rfl (Nat.le_of_ble_eq_true rfl) h (fun m10 h => ?_)
      exact h
set_option maxRecDepth 20000 in
theorem B_X12_bySign_151 {G : xG} {l : Launch} {d : Nat} {P : xMem → Prop} {v1 v2 v3 v4 v5 v6 v7 : Int} {μ : xMem} (h : CI G l d mX12_at [xi v2, xi v3, xi v4, xi v5, xi (1 - v6)] μ (fun r1 m2 => (((jand (jshr v7 4) 1) ≠ 1 → K_X12_bySign_242 G l (d + 1) P v1 v2 v3 v7 m2) ∧ ((jand (jshr v7 4) 1) = 1 → ((0 ≤ r1 ∧ r1 < 3960) ∧ (iR (m2 95 r1) ∧ ((m2 95 r1) ≤ 0 → K_X12_bySign_242 G l (d + 1) P v1 v2 v3 v7 m2) ∧ (0 < (m2 95 r1) → CV G l d mX12_open [xr G 74] m2 (fun m10 => CV G l d mX12_say [xr G 74, xi 116] m10 (fun m12 => CV G l d mX12_say [xr G 74, xi (65 + v1)] m12 (fun m14 => CV G l d mX12_say [xr G 74, xi 40] m14 (fun m16 => CV G l d mX12_sayRow [xr G 74, xi r1] m16 (fun m18 => CV G l d mX12_say [xr G 74, xi 41] m18 (fun m20 => CV G l d mX12_offer [xr G 74, xi (m20 95 r1), xi (1 + (m20 96 r1))] m20 (fun m22 => K_X12_bySign_242 G l (d + 1) P v1 v2 v3 v7 m22)))))))))))))) : K_X12_bySign_151 G l (d + 1) P v1 v2 v3 v4 v5 v6 v7 μ := by
  unfold K_X12_bySign_151
  refine xr_iload_n dX12_bySign_151 rfl ?_
  refine xr_iload_n dX12_bySign_152 rfl ?_
  refine xr_iload dX12_bySign_153 rfl ?_
  refine xr_iload dX12_bySign_155 rfl ?_
  refine xr_iconst dX12_bySign_157 ?_
  refine xr_iload dX12_bySign_158 rfl ?_
  refine xr_isub dX12_bySign_160 ?_
  refine xr_csI (As := [xi v2, xi v3, xi v4, xi v5, xi (1 - v6)]) dX12_bySign_161 ms_X12_at ml_X12_290 rfl rfl (Nat.le_of_ble_eq_true rfl) h (fun r1 m2 hr1 h => ?_)
  refine xr_istore' (ll' := [some (xr G 74), some (xi v1), some (xi v2), some (xi v3), some (xi v4), some (xi v5), some (xi v6), some (xi v7), some (xi r1)]) dX12_bySign_164 (by decide) rfl rfl ?_
  refine xr_iload dX12_bySign_166 rfl ?_
  refine xr_iconst dX12_bySign_168 ?_
  refine xr_ishr dX12_bySign_169 ?_
  refine xr_iconst dX12_bySign_170 ?_
  refine xr_iand dX12_bySign_171 ?_
  refine xr_iconst dX12_bySign_172 ?_
  obtain ⟨hT3, hF4⟩ := h
  refine xr_icmp_ne (tgt := 242) dX12_bySign_173 (by decide) (jR_and _ _) (by decide) (fun c => ?_) (fun c => ?_)
  · have h := hT3 c
    refine xr_wk (ll' := [some (xr G 74), some (xi v1), some (xi v2), some (xi v3), none, none, none, some (xi v7), none]) ⟨rfl, ⟨rfl, ⟨rfl, ⟨rfl, ⟨rfl, trivial⟩⟩⟩⟩⟩ ?_
    exact h
  · have h := hF4 c
    refine xr_aload_n dX12_bySign_176 rfl ?_
    refine xr_getR dX12_bySign_177 fl_X12_79 L_74 rfl ?_
    refine xr_iload dX12_bySign_180 rfl ?_
    obtain ⟨q5, h⟩ := h
    refine xr_iaload' (v := m2 95 r1) dX12_bySign_182 L_95 rfl (by decide) q5 rfl ?_
    obtain ⟨q6, hT7, hF8⟩ := h
    refine xr_if_le (tgt := 242) dX12_bySign_183 (by decide) q6  (fun c => ?_) (fun c => ?_)
    · have h := hT7 c
      refine xr_wk (ll' := [some (xr G 74), some (xi v1), some (xi v2), some (xi v3), none, none, none, some (xi v7), none]) ⟨rfl, ⟨rfl, ⟨rfl, ⟨rfl, ⟨rfl, trivial⟩⟩⟩⟩⟩ ?_
      exact h
    · have h := hF8 (Int.not_le.mp c)
      refine xr_aload_n dX12_bySign_186 rfl ?_
      refine xr_cvV (As := []) dX12_bySign_187 mi_X12_open ml_X12_269 se_X12_open L_74 rfl rfl rfl (Nat.le_of_ble_eq_true rfl) h (fun m10 h => ?_)
      refine xr_aload_n dX12_bySign_190 rfl ?_
      refine xr_bipush dX12_bySign_191 (by decide) ?_
      refine xr_cvV (As := [xi 116]) dX12_bySign_193 mi_X12_say ml_X12_250 se_X12_say L_74 rfl rfl rfl (Nat.le_of_ble_eq_true rfl) h (fun m12 h => ?_)
      refine xr_aload_n dX12_bySign_196 rfl ?_
      refine xr_bipush dX12_bySign_197 (by decide) ?_
      refine xr_iload_n dX12_bySign_199 rfl ?_
      refine xr_iadd dX12_bySign_200 ?_
      refine xr_cvV (As := [xi (65 + v1)]) dX12_bySign_201 mi_X12_say ml_X12_250 se_X12_say L_74 rfl rfl rfl (Nat.le_of_ble_eq_true rfl) h (fun m14 h => ?_)
      refine xr_aload_n dX12_bySign_204 rfl ?_
      refine xr_bipush dX12_bySign_205 (by decide) ?_
      refine xr_cvV (As := [xi 40]) dX12_bySign_207 mi_X12_say ml_X12_250 se_X12_say L_74 rfl rfl rfl (Nat.le_of_ble_eq_true rfl) h (fun m16 h => ?_)
      refine xr_aload_n dX12_bySign_210 rfl ?_
      refine xr_iload dX12_bySign_211 rfl ?_
      refine xr_cvV (As := [xi r1]) dX12_bySign_213 mi_X12_sayRow ml_X12_294 se_X12_sayRow L_74 rfl rfl rfl (Nat.le_of_ble_eq_true rfl) h (fun m18 h => ?_)
      refine xr_aload_n dX12_bySign_216 rfl ?_
      refine xr_bipush dX12_bySign_217 (by decide) ?_
      refine xr_cvV (As := [xi 41]) dX12_bySign_219 mi_X12_say ml_X12_250 se_X12_say L_74 rfl rfl rfl (Nat.le_of_ble_eq_true rfl) h (fun m20 h => ?_)
      refine xr_aload_n dX12_bySign_222 rfl ?_
      refine xr_aload_n dX12_bySign_223 rfl ?_
      refine xr_getR dX12_bySign_224 fl_X12_79 L_74 rfl ?_
      refine xr_iload dX12_bySign_227 rfl ?_
      refine xr_iaload' (v := m20 95 r1) dX12_bySign_229 L_95 rfl (by decide) q5 rfl ?_
      refine xr_iconst dX12_bySign_230 ?_
      refine xr_aload_n dX12_bySign_231 rfl ?_
      refine xr_getR dX12_bySign_232 fl_X12_82 L_74 rfl ?_
      refine xr_iload dX12_bySign_235 rfl ?_
      refine xr_iaload' (v := m20 96 r1) dX12_bySign_237 L_96 rfl (by decide) q5 rfl ?_
      refine xr_iadd dX12_bySign_238 ?_
      refine xr_cvV (As := [xi (m20 95 r1), xi (1 + (m20 96 r1))]) dX12_bySign_239 mi_X12_offer ml_X12_280 se_X12_offer L_74 rfl rfl rfl (Nat.le_of_ble_eq_true rfl) h (fun m22 h => ?_)
      refine xr_wk (ll' := [some (xr G 74), some (xi v1), some (xi v2), some (xi v3), none, none, none, some (xi v7), none]) ⟨rfl, ⟨rfl, ⟨rfl, ⟨rfl, ⟨rfl, trivial⟩⟩⟩⟩⟩ ?_
      exact h
set_option maxRecDepth 20000 in
theorem B_X12_bySign_242 {G : xG} {l : Launch} {d : Nat} {P : xMem → Prop} {v1 v2 v3 v7 : Int} {μ : xMem} (h : (iR v2 ∧ iR v3 ∧ (v2 ≠ v3 → K_X12_bySign_267 G l (d + 1) P v1 v2 v3 v7 μ) ∧ (v2 = v3 → (((jand (jshr v7 5) 1) ≠ 1 → K_X12_bySign_267 G l (d + 1) P v1 v2 v3 v7 μ) ∧ ((jand (jshr v7 5) 1) = 1 → CV G l d mX12_oneLess [xr G 74, xi 98, xi v1, xi v2, xi 1, xi 0] μ (fun m8 => K_X12_bySign_267 G l (d + 1) P v1 v2 v3 v7 m8)))))) : K_X12_bySign_242 G l (d + 1) P v1 v2 v3 v7 μ := by
  unfold K_X12_bySign_242
  refine xr_iload_n dX12_bySign_242 rfl ?_
  refine xr_iload_n dX12_bySign_243 rfl ?_
  obtain ⟨q1, q2, hT3, hF4⟩ := h
  refine xr_icmp_ne (tgt := 267) dX12_bySign_244 (by decide) q1 q2 (fun c => ?_) (fun c => ?_)
  · have h := hT3 c
    exact h
  · have h := hF4 c
    refine xr_iload dX12_bySign_247 rfl ?_
    refine xr_iconst dX12_bySign_249 ?_
    refine xr_ishr dX12_bySign_250 ?_
    refine xr_iconst dX12_bySign_251 ?_
    refine xr_iand dX12_bySign_252 ?_
    refine xr_iconst dX12_bySign_253 ?_
    obtain ⟨hT5, hF6⟩ := h
    refine xr_icmp_ne (tgt := 267) dX12_bySign_254 (by decide) (jR_and _ _) (by decide) (fun c => ?_) (fun c => ?_)
    · have h := hT5 c
      exact h
    · have h := hF6 c
      refine xr_aload_n dX12_bySign_257 rfl ?_
      refine xr_bipush dX12_bySign_258 (by decide) ?_
      refine xr_iload_n dX12_bySign_260 rfl ?_
      refine xr_iload_n dX12_bySign_261 rfl ?_
      refine xr_iconst dX12_bySign_262 ?_
      refine xr_iconst dX12_bySign_263 ?_
      refine xr_cvV (As := [xi 98, xi v1, xi v2, xi 1, xi 0]) dX12_bySign_264 mi_X12_oneLess ml_X12_297 se_X12_oneLess L_74 rfl rfl rfl (Nat.le_of_ble_eq_true rfl) h (fun m8 h => ?_)
      exact h
set_option maxRecDepth 20000 in
theorem B_X12_bySign_267 {G : xG} {l : Launch} {d : Nat} {P : xMem → Prop} {v1 v2 v3 v7 : Int} {μ : xMem} (h : (iR v2 ∧ iR v3 ∧ (v2 ≠ v3 → P μ) ∧ (v2 = v3 → (((jand (jshr v7 6) 1) ≠ 1 → P μ) ∧ ((jand (jshr v7 6) 1) = 1 → CV G l d mX12_oneLess [xr G 74, xi 99, xi v1, xi v2, xi 0, xi 1] μ (fun m8 => P m8)))))) : K_X12_bySign_267 G l (d + 1) P v1 v2 v3 v7 μ := by
  unfold K_X12_bySign_267
  refine xr_iload_n dX12_bySign_267 rfl ?_
  refine xr_iload_n dX12_bySign_268 rfl ?_
  obtain ⟨q1, q2, hT3, hF4⟩ := h
  refine xr_icmp_ne (tgt := 293) dX12_bySign_269 (by decide) q1 q2 (fun c => ?_) (fun c => ?_)
  · have h := hT3 c
    exact xr_ret dX12_bySign_293 rfl ⟨rfl, rfl, h⟩
  · have h := hF4 c
    refine xr_iload dX12_bySign_272 rfl ?_
    refine xr_bipush dX12_bySign_274 (by decide) ?_
    refine xr_ishr dX12_bySign_276 ?_
    refine xr_iconst dX12_bySign_277 ?_
    refine xr_iand dX12_bySign_278 ?_
    refine xr_iconst dX12_bySign_279 ?_
    obtain ⟨hT5, hF6⟩ := h
    refine xr_icmp_ne (tgt := 293) dX12_bySign_280 (by decide) (jR_and _ _) (by decide) (fun c => ?_) (fun c => ?_)
    · have h := hT5 c
      exact xr_ret dX12_bySign_293 rfl ⟨rfl, rfl, h⟩
    · have h := hF6 c
      refine xr_aload_n dX12_bySign_283 rfl ?_
      refine xr_bipush dX12_bySign_284 (by decide) ?_
      refine xr_iload_n dX12_bySign_286 rfl ?_
      refine xr_iload_n dX12_bySign_287 rfl ?_
      refine xr_iconst dX12_bySign_288 ?_
      refine xr_iconst dX12_bySign_289 ?_
      refine xr_cvV (As := [xi 99, xi v1, xi v2, xi 0, xi 1]) dX12_bySign_290 mi_X12_oneLess ml_X12_297 se_X12_oneLess L_74 rfl rfl rfl (Nat.le_of_ble_eq_true rfl) h (fun m8 h => ?_)
      exact xr_ret dX12_bySign_293 rfl ⟨rfl, rfl, h⟩
theorem dX12_oneLess_0 : decode cX12_oneLess 0 = .ok (.aload_n 0, 1) := by decide +kernel
theorem dX12_oneLess_1 : decode cX12_oneLess 1 = .ok (.invokevirtual 301, 3) := by decide +kernel
theorem dX12_oneLess_4 : decode cX12_oneLess 4 = .ok (.iconst 0, 1) := by decide +kernel
theorem dX12_oneLess_5 : decode cX12_oneLess 5 = .ok (.istore 6, 2) := by decide +kernel
theorem dX12_oneLess_7 : decode cX12_oneLess 7 = .ok (.iload 6, 2) := by decide +kernel
theorem dX12_oneLess_9 : decode cX12_oneLess 9 = .ok (.iconst 2, 1) := by decide +kernel
theorem dX12_oneLess_10 : decode cX12_oneLess 10 = .ok (.if_icmp .ge 120, 3) := by decide +kernel
theorem dX12_oneLess_13 : decode cX12_oneLess 13 = .ok (.aload_n 0, 1) := by decide +kernel
theorem dX12_oneLess_14 : decode cX12_oneLess 14 = .ok (.invokevirtual 269, 3) := by decide +kernel
theorem dX12_oneLess_17 : decode cX12_oneLess 17 = .ok (.aload_n 0, 1) := by decide +kernel
theorem dX12_oneLess_18 : decode cX12_oneLess 18 = .ok (.iload_n 1, 1) := by decide +kernel
theorem dX12_oneLess_19 : decode cX12_oneLess 19 = .ok (.invokevirtual 250, 3) := by decide +kernel
theorem dX12_oneLess_22 : decode cX12_oneLess 22 = .ok (.aload_n 0, 1) := by decide +kernel
theorem dX12_oneLess_23 : decode cX12_oneLess 23 = .ok (.bipush 65, 2) := by decide +kernel
theorem dX12_oneLess_25 : decode cX12_oneLess 25 = .ok (.iload_n 2, 1) := by decide +kernel
theorem dX12_oneLess_26 : decode cX12_oneLess 26 = .ok (.iadd, 1) := by decide +kernel
theorem dX12_oneLess_27 : decode cX12_oneLess 27 = .ok (.invokevirtual 250, 3) := by decide +kernel
theorem dX12_oneLess_30 : decode cX12_oneLess 30 = .ok (.aload_n 0, 1) := by decide +kernel
theorem dX12_oneLess_31 : decode cX12_oneLess 31 = .ok (.bipush 40, 2) := by decide +kernel
theorem dX12_oneLess_33 : decode cX12_oneLess 33 = .ok (.invokevirtual 250, 3) := by decide +kernel
theorem dX12_oneLess_36 : decode cX12_oneLess 36 = .ok (.aload_n 0, 1) := by decide +kernel
theorem dX12_oneLess_37 : decode cX12_oneLess 37 = .ok (.iload 6, 2) := by decide +kernel
theorem dX12_oneLess_39 : decode cX12_oneLess 39 = .ok (.ifCond .ne 8, 3) := by decide +kernel
theorem dX12_oneLess_42 : decode cX12_oneLess 42 = .ok (.bipush 108, 2) := by decide +kernel
theorem dX12_oneLess_44 : decode cX12_oneLess 44 = .ok (.goto 5, 3) := by decide +kernel
theorem dX12_oneLess_47 : decode cX12_oneLess 47 = .ok (.bipush 109, 2) := by decide +kernel
theorem dX12_oneLess_49 : decode cX12_oneLess 49 = .ok (.invokevirtual 250, 3) := by decide +kernel
theorem dX12_oneLess_52 : decode cX12_oneLess 52 = .ok (.aload_n 0, 1) := by decide +kernel
theorem dX12_oneLess_53 : decode cX12_oneLess 53 = .ok (.bipush 65, 2) := by decide +kernel
theorem dX12_oneLess_55 : decode cX12_oneLess 55 = .ok (.iload_n 3, 1) := by decide +kernel
theorem dX12_oneLess_56 : decode cX12_oneLess 56 = .ok (.iadd, 1) := by decide +kernel
theorem dX12_oneLess_57 : decode cX12_oneLess 57 = .ok (.invokevirtual 250, 3) := by decide +kernel
theorem dX12_oneLess_60 : decode cX12_oneLess 60 = .ok (.aload_n 0, 1) := by decide +kernel
theorem dX12_oneLess_61 : decode cX12_oneLess 61 = .ok (.bipush 41, 2) := by decide +kernel
theorem dX12_oneLess_63 : decode cX12_oneLess 63 = .ok (.invokevirtual 250, 3) := by decide +kernel
theorem dX12_oneLess_66 : decode cX12_oneLess 66 = .ok (.aload_n 0, 1) := by decide +kernel
theorem dX12_oneLess_67 : decode cX12_oneLess 67 = .ok (.iload 6, 2) := by decide +kernel
theorem dX12_oneLess_69 : decode cX12_oneLess 69 = .ok (.ifCond .ne 28, 3) := by decide +kernel
theorem dX12_oneLess_72 : decode cX12_oneLess 72 = .ok (.aload_n 0, 1) := by decide +kernel
theorem dX12_oneLess_73 : decode cX12_oneLess 73 = .ok (.aload_n 0, 1) := by decide +kernel
theorem dX12_oneLess_74 : decode cX12_oneLess 74 = .ok (.getfield 95, 3) := by decide +kernel
theorem dX12_oneLess_77 : decode cX12_oneLess 77 = .ok (.iload_n 3, 1) := by decide +kernel
theorem dX12_oneLess_78 : decode cX12_oneLess 78 = .ok (.iaload, 1) := by decide +kernel
theorem dX12_oneLess_79 : decode cX12_oneLess 79 = .ok (.iload 4, 2) := by decide +kernel
theorem dX12_oneLess_81 : decode cX12_oneLess 81 = .ok (.iload 5, 2) := by decide +kernel
theorem dX12_oneLess_83 : decode cX12_oneLess 83 = .ok (.invokevirtual 259, 3) := by decide +kernel
theorem dX12_oneLess_86 : decode cX12_oneLess 86 = .ok (.ifCond .eq 7, 3) := by decide +kernel
theorem dX12_oneLess_89 : decode cX12_oneLess 89 = .ok (.iconst 1, 1) := by decide +kernel
theorem dX12_oneLess_90 : decode cX12_oneLess 90 = .ok (.goto 21, 3) := by decide +kernel
theorem dX12_oneLess_93 : decode cX12_oneLess 93 = .ok (.iconst 0, 1) := by decide +kernel
theorem dX12_oneLess_94 : decode cX12_oneLess 94 = .ok (.goto 17, 3) := by decide +kernel
theorem dX12_oneLess_97 : decode cX12_oneLess 97 = .ok (.aload_n 0, 1) := by decide +kernel
theorem dX12_oneLess_98 : decode cX12_oneLess 98 = .ok (.aload_n 0, 1) := by decide +kernel
theorem dX12_oneLess_99 : decode cX12_oneLess 99 = .ok (.getfield 95, 3) := by decide +kernel
theorem dX12_oneLess_102 : decode cX12_oneLess 102 = .ok (.iload_n 3, 1) := by decide +kernel
theorem dX12_oneLess_103 : decode cX12_oneLess 103 = .ok (.iaload, 1) := by decide +kernel
theorem dX12_oneLess_104 : decode cX12_oneLess 104 = .ok (.iload 4, 2) := by decide +kernel
theorem dX12_oneLess_106 : decode cX12_oneLess 106 = .ok (.iload 5, 2) := by decide +kernel
theorem dX12_oneLess_108 : decode cX12_oneLess 108 = .ok (.invokevirtual 304, 3) := by decide +kernel
theorem dX12_oneLess_111 : decode cX12_oneLess 111 = .ok (.iload 6, 2) := by decide +kernel
theorem dX12_oneLess_113 : decode cX12_oneLess 113 = .ok (.ifCond .ne 7, 3) := by decide +kernel
theorem dX12_oneLess_116 : decode cX12_oneLess 116 = .ok (.iconst 3, 1) := by decide +kernel
theorem dX12_oneLess_117 : decode cX12_oneLess 117 = .ok (.goto 4, 3) := by decide +kernel
theorem dX12_oneLess_120 : decode cX12_oneLess 120 = .ok (.iconst 2, 1) := by decide +kernel
theorem dX12_oneLess_121 : decode cX12_oneLess 121 = .ok (.invokevirtual 280, 3) := by decide +kernel
theorem dX12_oneLess_124 : decode cX12_oneLess 124 = .ok (.iinc 6 1, 3) := by decide +kernel
theorem dX12_oneLess_127 : decode cX12_oneLess 127 = .ok (.goto (-120), 3) := by decide +kernel
theorem dX12_oneLess_130 : decode cX12_oneLess 130 = .ok (.return_, 1) := by decide +kernel
def K_X12_oneLess_7 (G : xG) (l : Launch) (d : Nat) (P : xMem → Prop) (v1 v2 v3 v4 v5 v6 : Int) (μ : xMem) : Prop := RR G l d 0 0 false mX12_oneLess (qV P) 7 [some (xr G 74), some (xi v1), some (xi v2), some (xi v3), some (xi v4), some (xi v5), some (xi v6)] [] LAY μ 0 0
def K_X12_oneLess_49 (G : xG) (l : Launch) (d : Nat) (P : xMem → Prop) (v1 v2 v3 v4 v5 v6 s1 : Int) (μ : xMem) : Prop := RR G l d 0 0 false mX12_oneLess (qV P) 49 [some (xr G 74), some (xi v1), some (xi v2), some (xi v3), some (xi v4), some (xi v5), some (xi v6)] [xi s1, xr G 74] LAY μ 0 0
def K_X12_oneLess_111 (G : xG) (l : Launch) (d : Nat) (P : xMem → Prop) (v1 v2 v3 v4 v5 v6 s1 : Int) (μ : xMem) : Prop := RR G l d 0 0 false mX12_oneLess (qV P) 111 [some (xr G 74), some (xi v1), some (xi v2), some (xi v3), some (xi v4), some (xi v5), some (xi v6)] [xi s1, xr G 74] LAY μ 0 0
set_option maxRecDepth 20000 in
theorem E_X12_oneLess {G : xG} {l : Launch} {d : Nat} {P : xMem → Prop} {v1 v2 v3 v4 v5 : Int} {μ : xMem} (h : CV G l d mX12_runAround [xr G 74] μ (fun m2 => K_X12_oneLess_7 G l (d + 1) P v1 v2 v3 v4 v5 0 m2)) : CV G l (d + 1) mX12_oneLess [xr G 74, xi v1, xi v2, xi v3, xi v4, xi v5] μ P := by
  refine CC.ofRR (ll := [some (xr G 74), some (xi v1), some (xi v2), some (xi v3), some (xi v4), some (xi v5), none]) (by decide +kernel) (Nat.le_of_ble_eq_true rfl) rfl (fun h => by cases h) ?_
  refine xr_aload_n dX12_oneLess_0 rfl ?_
  refine xr_cvV (As := []) dX12_oneLess_1 mi_X12_runAround ml_X12_301 se_X12_runAround L_74 rfl rfl rfl (Nat.le_of_ble_eq_true rfl) h (fun m2 h => ?_)
  refine xr_iconst dX12_oneLess_4 ?_
  refine xr_istore' (ll' := [some (xr G 74), some (xi v1), some (xi v2), some (xi v3), some (xi v4), some (xi v5), some (xi 0)]) dX12_oneLess_5 (by decide) rfl rfl ?_
  exact h
set_option maxRecDepth 20000 in
theorem B_X12_oneLess_7 {G : xG} {l : Launch} {d : Nat} {P : xMem → Prop} {v1 v2 v3 v4 v5 v6 : Int} {μ : xMem} (h : (iR v6 ∧ (2 ≤ v6 → P μ) ∧ (v6 < 2 → CV G l d mX12_open [xr G 74] μ (fun m5 => CV G l d mX12_say [xr G 74, xi v1] m5 (fun m7 => CV G l d mX12_say [xr G 74, xi (65 + v2)] m7 (fun m9 => CV G l d mX12_say [xr G 74, xi 40] m9 (fun m11 => ((v6 ≠ 0 → K_X12_oneLess_49 G l (d + 1) P v1 v2 v3 v4 v5 v6 109 m11) ∧ (v6 = 0 → K_X12_oneLess_49 G l (d + 1) P v1 v2 v3 v4 v5 v6 108 m11))))))))) : K_X12_oneLess_7 G l (d + 1) P v1 v2 v3 v4 v5 v6 μ := by
  unfold K_X12_oneLess_7
  refine xr_iload dX12_oneLess_7 rfl ?_
  refine xr_iconst dX12_oneLess_9 ?_
  obtain ⟨q1, hT2, hF3⟩ := h
  refine xr_icmp_ge (tgt := 130) dX12_oneLess_10 (by decide) q1 (by decide) (fun c => ?_) (fun c => ?_)
  · have h := hT2 c
    exact xr_ret dX12_oneLess_130 rfl ⟨rfl, rfl, h⟩
  · have h := hF3 (Int.not_le.mp c)
    refine xr_aload_n dX12_oneLess_13 rfl ?_
    refine xr_cvV (As := []) dX12_oneLess_14 mi_X12_open ml_X12_269 se_X12_open L_74 rfl rfl rfl (Nat.le_of_ble_eq_true rfl) h (fun m5 h => ?_)
    refine xr_aload_n dX12_oneLess_17 rfl ?_
    refine xr_iload_n dX12_oneLess_18 rfl ?_
    refine xr_cvV (As := [xi v1]) dX12_oneLess_19 mi_X12_say ml_X12_250 se_X12_say L_74 rfl rfl rfl (Nat.le_of_ble_eq_true rfl) h (fun m7 h => ?_)
    refine xr_aload_n dX12_oneLess_22 rfl ?_
    refine xr_bipush dX12_oneLess_23 (by decide) ?_
    refine xr_iload_n dX12_oneLess_25 rfl ?_
    refine xr_iadd dX12_oneLess_26 ?_
    refine xr_cvV (As := [xi (65 + v2)]) dX12_oneLess_27 mi_X12_say ml_X12_250 se_X12_say L_74 rfl rfl rfl (Nat.le_of_ble_eq_true rfl) h (fun m9 h => ?_)
    refine xr_aload_n dX12_oneLess_30 rfl ?_
    refine xr_bipush dX12_oneLess_31 (by decide) ?_
    refine xr_cvV (As := [xi 40]) dX12_oneLess_33 mi_X12_say ml_X12_250 se_X12_say L_74 rfl rfl rfl (Nat.le_of_ble_eq_true rfl) h (fun m11 h => ?_)
    refine xr_aload_n dX12_oneLess_36 rfl ?_
    refine xr_iload dX12_oneLess_37 rfl ?_
    obtain ⟨hT12, hF13⟩ := h
    refine xr_if_ne (tgt := 47) dX12_oneLess_39 (by decide) q1  (fun c => ?_) (fun c => ?_)
    · have h := hT12 c
      refine xr_bipush dX12_oneLess_47 (by decide) ?_
      exact h
    · have h := hF13 c
      refine xr_bipush dX12_oneLess_42 (by decide) ?_
      refine xr_goto (tgt := 49) dX12_oneLess_44 (by decide) ?_
      exact h
set_option maxRecDepth 20000 in
theorem B_X12_oneLess_49 {G : xG} {l : Launch} {d : Nat} {P : xMem → Prop} {v1 v2 v3 v4 v5 v6 s1 : Int} {μ : xMem} (h : CV G l d mX12_say [xr G 74, xi s1] μ (fun m2 => CV G l d mX12_say [xr G 74, xi (65 + v3)] m2 (fun m4 => CV G l d mX12_say [xr G 74, xi 41] m4 (fun m6 => (iR v6 ∧ (v6 ≠ 0 → ((0 ≤ v3 ∧ v3 < 8) ∧ CI G l d mX12_meant [xr G 74, xi (m6 100 v3), xi v4, xi v5] m6 (fun r11 m12 => K_X12_oneLess_111 G l (d + 1) P v1 v2 v3 v4 v5 v6 r11 m12))) ∧ (v6 = 0 → ((0 ≤ v3 ∧ v3 < 8) ∧ CI G l d mX12_isAround [xr G 74, xi (m6 100 v3), xi v4, xi v5] m6 (fun r14 m15 => ((r14 = 0 → K_X12_oneLess_111 G l (d + 1) P v1 v2 v3 v4 v5 v6 0 m15) ∧ (r14 ≠ 0 → K_X12_oneLess_111 G l (d + 1) P v1 v2 v3 v4 v5 v6 1 m15)))))))))) : K_X12_oneLess_49 G l (d + 1) P v1 v2 v3 v4 v5 v6 s1 μ := by
  unfold K_X12_oneLess_49
  refine xr_cvV (As := [xi s1]) dX12_oneLess_49 mi_X12_say ml_X12_250 se_X12_say L_74 rfl rfl rfl (Nat.le_of_ble_eq_true rfl) h (fun m2 h => ?_)
  refine xr_aload_n dX12_oneLess_52 rfl ?_
  refine xr_bipush dX12_oneLess_53 (by decide) ?_
  refine xr_iload_n dX12_oneLess_55 rfl ?_
  refine xr_iadd dX12_oneLess_56 ?_
  refine xr_cvV (As := [xi (65 + v3)]) dX12_oneLess_57 mi_X12_say ml_X12_250 se_X12_say L_74 rfl rfl rfl (Nat.le_of_ble_eq_true rfl) h (fun m4 h => ?_)
  refine xr_aload_n dX12_oneLess_60 rfl ?_
  refine xr_bipush dX12_oneLess_61 (by decide) ?_
  refine xr_cvV (As := [xi 41]) dX12_oneLess_63 mi_X12_say ml_X12_250 se_X12_say L_74 rfl rfl rfl (Nat.le_of_ble_eq_true rfl) h (fun m6 h => ?_)
  refine xr_aload_n dX12_oneLess_66 rfl ?_
  refine xr_iload dX12_oneLess_67 rfl ?_
  obtain ⟨q7, hT8, hF9⟩ := h
  refine xr_if_ne (tgt := 97) dX12_oneLess_69 (by decide) q7  (fun c => ?_) (fun c => ?_)
  · have h := hT8 c
    refine xr_aload_n dX12_oneLess_97 rfl ?_
    refine xr_aload_n dX12_oneLess_98 rfl ?_
    refine xr_getR dX12_oneLess_99 fl_X12_95 L_74 rfl ?_
    refine xr_iload_n dX12_oneLess_102 rfl ?_
    obtain ⟨q10, h⟩ := h
    refine xr_iaload' (v := m6 100 v3) dX12_oneLess_103 L_100 rfl (by decide) q10 rfl ?_
    refine xr_iload dX12_oneLess_104 rfl ?_
    refine xr_iload dX12_oneLess_106 rfl ?_
    refine xr_cvI (As := [xi (m6 100 v3), xi v4, xi v5]) dX12_oneLess_108 mi_X12_meant ml_X12_304 se_X12_meant L_74 rfl rfl rfl (Nat.le_of_ble_eq_true rfl) h (fun r11 m12 hr11 h => ?_)
    exact h
  · have h := hF9 c
    refine xr_aload_n dX12_oneLess_72 rfl ?_
    refine xr_aload_n dX12_oneLess_73 rfl ?_
    refine xr_getR dX12_oneLess_74 fl_X12_95 L_74 rfl ?_
    refine xr_iload_n dX12_oneLess_77 rfl ?_
    obtain ⟨q13, h⟩ := h
    refine xr_iaload' (v := m6 100 v3) dX12_oneLess_78 L_100 rfl (by decide) q13 rfl ?_
    refine xr_iload dX12_oneLess_79 rfl ?_
    refine xr_iload dX12_oneLess_81 rfl ?_
    refine xr_cvI (As := [xi (m6 100 v3), xi v4, xi v5]) dX12_oneLess_83 mi_X12_isAround ml_X12_259 se_X12_isAround L_74 rfl rfl rfl (Nat.le_of_ble_eq_true rfl) h (fun r14 m15 hr14 h => ?_)
    obtain ⟨hT16, hF17⟩ := h
    refine xr_if_eq (tgt := 93) dX12_oneLess_86 (by decide) hr14  (fun c => ?_) (fun c => ?_)
    · have h := hT16 c
      refine xr_iconst dX12_oneLess_93 ?_
      refine xr_goto (tgt := 111) dX12_oneLess_94 (by decide) ?_
      exact h
    · have h := hF17 c
      refine xr_iconst dX12_oneLess_89 ?_
      refine xr_goto (tgt := 111) dX12_oneLess_90 (by decide) ?_
      exact h
set_option maxRecDepth 20000 in
theorem B_X12_oneLess_111 {G : xG} {l : Launch} {d : Nat} {P : xMem → Prop} {v1 v2 v3 v4 v5 v6 s1 : Int} {μ : xMem} (h : (iR v6 ∧ (v6 ≠ 0 → CV G l d mX12_offer [xr G 74, xi s1, xi 2] μ (fun m5 => K_X12_oneLess_7 G l (d + 1) P v1 v2 v3 v4 v5 (v6 + 1) m5)) ∧ (v6 = 0 → CV G l d mX12_offer [xr G 74, xi s1, xi 3] μ (fun m7 => K_X12_oneLess_7 G l (d + 1) P v1 v2 v3 v4 v5 (v6 + 1) m7)))) : K_X12_oneLess_111 G l (d + 1) P v1 v2 v3 v4 v5 v6 s1 μ := by
  unfold K_X12_oneLess_111
  refine xr_iload dX12_oneLess_111 rfl ?_
  obtain ⟨q1, hT2, hF3⟩ := h
  refine xr_if_ne (tgt := 120) dX12_oneLess_113 (by decide) q1  (fun c => ?_) (fun c => ?_)
  · have h := hT2 c
    refine xr_iconst dX12_oneLess_120 ?_
    refine xr_cvV (As := [xi s1, xi 2]) dX12_oneLess_121 mi_X12_offer ml_X12_280 se_X12_offer L_74 rfl rfl rfl (Nat.le_of_ble_eq_true rfl) h (fun m5 h => ?_)
    refine xr_iinc' (ll' := [some (xr G 74), some (xi v1), some (xi v2), some (xi v3), some (xi v4), some (xi v5), some (xi (v6 + 1))]) dX12_oneLess_124 rfl (by decide) rfl rfl ?_
    refine xr_goto (tgt := 7) dX12_oneLess_127 (by decide) ?_
    exact h
  · have h := hF3 c
    refine xr_iconst dX12_oneLess_116 ?_
    refine xr_goto (tgt := 121) dX12_oneLess_117 (by decide) ?_
    refine xr_cvV (As := [xi s1, xi 3]) dX12_oneLess_121 mi_X12_offer ml_X12_280 se_X12_offer L_74 rfl rfl rfl (Nat.le_of_ble_eq_true rfl) h (fun m7 h => ?_)
    refine xr_iinc' (ll' := [some (xr G 74), some (xi v1), some (xi v2), some (xi v3), some (xi v4), some (xi v5), some (xi (v6 + 1))]) dX12_oneLess_124 rfl (by decide) rfl rfl ?_
    refine xr_goto (tgt := 7) dX12_oneLess_127 (by decide) ?_
    exact h
theorem dX12_putIn_0 : decode cX12_putIn 0 = .ok (.iconst 1, 1) := by decide +kernel
theorem dX12_putIn_1 : decode cX12_putIn 1 = .ok (.istore 9, 2) := by decide +kernel
theorem dX12_putIn_3 : decode cX12_putIn 3 = .ok (.iload 9, 2) := by decide +kernel
theorem dX12_putIn_5 : decode cX12_putIn 5 = .ok (.aload_n 0, 1) := by decide +kernel
theorem dX12_putIn_6 : decode cX12_putIn 6 = .ok (.getfield 253, 3) := by decide +kernel
theorem dX12_putIn_9 : decode cX12_putIn 9 = .ok (.iconst 2, 1) := by decide +kernel
theorem dX12_putIn_10 : decode cX12_putIn 10 = .ok (.isub, 1) := by decide +kernel
theorem dX12_putIn_11 : decode cX12_putIn 11 = .ok (.if_icmp .gt 322, 3) := by decide +kernel
theorem dX12_putIn_14 : decode cX12_putIn 14 = .ok (.iconst 1, 1) := by decide +kernel
theorem dX12_putIn_15 : decode cX12_putIn 15 = .ok (.istore 10, 2) := by decide +kernel
theorem dX12_putIn_17 : decode cX12_putIn 17 = .ok (.iload 10, 2) := by decide +kernel
theorem dX12_putIn_19 : decode cX12_putIn 19 = .ok (.iload 9, 2) := by decide +kernel
theorem dX12_putIn_21 : decode cX12_putIn 21 = .ok (.iadd, 1) := by decide +kernel
theorem dX12_putIn_22 : decode cX12_putIn 22 = .ok (.aload_n 0, 1) := by decide +kernel
theorem dX12_putIn_23 : decode cX12_putIn 23 = .ok (.getfield 253, 3) := by decide +kernel
theorem dX12_putIn_26 : decode cX12_putIn 26 = .ok (.if_icmp .ge 301, 3) := by decide +kernel
theorem dX12_putIn_29 : decode cX12_putIn 29 = .ok (.iload 8, 2) := by decide +kernel
theorem dX12_putIn_31 : decode cX12_putIn 31 = .ok (.ifCond .ne 11, 3) := by decide +kernel
theorem dX12_putIn_34 : decode cX12_putIn 34 = .ok (.iload 6, 2) := by decide +kernel
theorem dX12_putIn_36 : decode cX12_putIn 36 = .ok (.iload 10, 2) := by decide +kernel
theorem dX12_putIn_38 : decode cX12_putIn 38 = .ok (.iadd, 1) := by decide +kernel
theorem dX12_putIn_39 : decode cX12_putIn 39 = .ok (.goto 11, 3) := by decide +kernel
theorem dX12_putIn_42 : decode cX12_putIn 42 = .ok (.iload 7, 2) := by decide +kernel
theorem dX12_putIn_44 : decode cX12_putIn 44 = .ok (.iload 10, 2) := by decide +kernel
theorem dX12_putIn_46 : decode cX12_putIn 46 = .ok (.isub, 1) := by decide +kernel
theorem dX12_putIn_47 : decode cX12_putIn 47 = .ok (.iload 9, 2) := by decide +kernel
theorem dX12_putIn_49 : decode cX12_putIn 49 = .ok (.isub, 1) := by decide +kernel
theorem dX12_putIn_50 : decode cX12_putIn 50 = .ok (.istore 11, 2) := by decide +kernel
theorem dX12_putIn_52 : decode cX12_putIn 52 = .ok (.iload 4, 2) := by decide +kernel
theorem dX12_putIn_54 : decode cX12_putIn 54 = .ok (.iload 5, 2) := by decide +kernel
theorem dX12_putIn_56 : decode cX12_putIn 56 = .ok (.iload 11, 2) := by decide +kernel
theorem dX12_putIn_58 : decode cX12_putIn 58 = .ok (.iload 11, 2) := by decide +kernel
theorem dX12_putIn_60 : decode cX12_putIn 60 = .ok (.iload 9, 2) := by decide +kernel
theorem dX12_putIn_62 : decode cX12_putIn 62 = .ok (.iadd, 1) := by decide +kernel
theorem dX12_putIn_63 : decode cX12_putIn 63 = .ok (.iload 8, 2) := by decide +kernel
theorem dX12_putIn_65 : decode cX12_putIn 65 = .ok (.invokestatic 290, 3) := by decide +kernel
theorem dX12_putIn_68 : decode cX12_putIn 68 = .ok (.istore 12, 2) := by decide +kernel
theorem dX12_putIn_70 : decode cX12_putIn 70 = .ok (.aload_n 0, 1) := by decide +kernel
theorem dX12_putIn_71 : decode cX12_putIn 71 = .ok (.getfield 79, 3) := by decide +kernel
theorem dX12_putIn_74 : decode cX12_putIn 74 = .ok (.iload 12, 2) := by decide +kernel
theorem dX12_putIn_76 : decode cX12_putIn 76 = .ok (.iaload, 1) := by decide +kernel
theorem dX12_putIn_77 : decode cX12_putIn 77 = .ok (.ifCond .ne 6, 3) := by decide +kernel
theorem dX12_putIn_80 : decode cX12_putIn 80 = .ok (.goto 241, 3) := by decide +kernel
theorem dX12_putIn_83 : decode cX12_putIn 83 = .ok (.aload_n 0, 1) := by decide +kernel
theorem dX12_putIn_84 : decode cX12_putIn 84 = .ok (.iconst 0, 1) := by decide +kernel
theorem dX12_putIn_85 : decode cX12_putIn 85 = .ok (.putfield 256, 3) := by decide +kernel
theorem dX12_putIn_88 : decode cX12_putIn 88 = .ok (.iconst 0, 1) := by decide +kernel
theorem dX12_putIn_89 : decode cX12_putIn 89 = .ok (.istore 13, 2) := by decide +kernel
theorem dX12_putIn_91 : decode cX12_putIn 91 = .ok (.iload 13, 2) := by decide +kernel
theorem dX12_putIn_93 : decode cX12_putIn 93 = .ok (.aload_n 0, 1) := by decide +kernel
theorem dX12_putIn_94 : decode cX12_putIn 94 = .ok (.getfield 253, 3) := by decide +kernel
theorem dX12_putIn_97 : decode cX12_putIn 97 = .ok (.if_icmp .ge 55, 3) := by decide +kernel
theorem dX12_putIn_100 : decode cX12_putIn 100 = .ok (.iload 13, 2) := by decide +kernel
theorem dX12_putIn_102 : decode cX12_putIn 102 = .ok (.iload 10, 2) := by decide +kernel
theorem dX12_putIn_104 : decode cX12_putIn 104 = .ok (.if_icmp .lt 16, 3) := by decide +kernel
theorem dX12_putIn_107 : decode cX12_putIn 107 = .ok (.iload 13, 2) := by decide +kernel
theorem dX12_putIn_109 : decode cX12_putIn 109 = .ok (.iload 10, 2) := by decide +kernel
theorem dX12_putIn_111 : decode cX12_putIn 111 = .ok (.iload 9, 2) := by decide +kernel
theorem dX12_putIn_113 : decode cX12_putIn 113 = .ok (.iadd, 1) := by decide +kernel
theorem dX12_putIn_114 : decode cX12_putIn 114 = .ok (.if_icmp .ge 6, 3) := by decide +kernel
theorem dX12_putIn_117 : decode cX12_putIn 117 = .ok (.goto 29, 3) := by decide +kernel
theorem dX12_putIn_120 : decode cX12_putIn 120 = .ok (.aload_n 0, 1) := by decide +kernel
theorem dX12_putIn_121 : decode cX12_putIn 121 = .ok (.getfield 104, 3) := by decide +kernel
theorem dX12_putIn_124 : decode cX12_putIn 124 = .ok (.aload_n 0, 1) := by decide +kernel
theorem dX12_putIn_125 : decode cX12_putIn 125 = .ok (.getfield 256, 3) := by decide +kernel
theorem dX12_putIn_128 : decode cX12_putIn 128 = .ok (.aload_n 0, 1) := by decide +kernel
theorem dX12_putIn_129 : decode cX12_putIn 129 = .ok (.getfield 101, 3) := by decide +kernel
theorem dX12_putIn_132 : decode cX12_putIn 132 = .ok (.iload 13, 2) := by decide +kernel
theorem dX12_putIn_134 : decode cX12_putIn 134 = .ok (.iaload, 1) := by decide +kernel
theorem dX12_putIn_135 : decode cX12_putIn 135 = .ok (.iastore, 1) := by decide +kernel
theorem dX12_putIn_136 : decode cX12_putIn 136 = .ok (.aload_n 0, 1) := by decide +kernel
theorem dX12_putIn_137 : decode cX12_putIn 137 = .ok (.dup, 1) := by decide +kernel
theorem dX12_putIn_138 : decode cX12_putIn 138 = .ok (.getfield 256, 3) := by decide +kernel
theorem dX12_putIn_141 : decode cX12_putIn 141 = .ok (.iconst 1, 1) := by decide +kernel
theorem dX12_putIn_142 : decode cX12_putIn 142 = .ok (.iadd, 1) := by decide +kernel
theorem dX12_putIn_143 : decode cX12_putIn 143 = .ok (.putfield 256, 3) := by decide +kernel
theorem dX12_putIn_146 : decode cX12_putIn 146 = .ok (.iinc 13 1, 3) := by decide +kernel
theorem dX12_putIn_149 : decode cX12_putIn 149 = .ok (.goto (-58), 3) := by decide +kernel
theorem dX12_putIn_152 : decode cX12_putIn 152 = .ok (.iconst 0, 1) := by decide +kernel
theorem dX12_putIn_153 : decode cX12_putIn 153 = .ok (.istore 13, 2) := by decide +kernel
theorem dX12_putIn_155 : decode cX12_putIn 155 = .ok (.iload 13, 2) := by decide +kernel
theorem dX12_putIn_157 : decode cX12_putIn 157 = .ok (.iconst 2, 1) := by decide +kernel
theorem dX12_putIn_158 : decode cX12_putIn 158 = .ok (.if_icmp .ge 163, 3) := by decide +kernel
theorem dX12_putIn_161 : decode cX12_putIn 161 = .ok (.iload 13, 2) := by decide +kernel
theorem dX12_putIn_163 : decode cX12_putIn 163 = .ok (.ifCond .ne 26, 3) := by decide +kernel
theorem dX12_putIn_166 : decode cX12_putIn 166 = .ok (.aload_n 0, 1) := by decide +kernel
theorem dX12_putIn_167 : decode cX12_putIn 167 = .ok (.aload_n 0, 1) := by decide +kernel
theorem dX12_putIn_168 : decode cX12_putIn 168 = .ok (.getfield 95, 3) := by decide +kernel
theorem dX12_putIn_171 : decode cX12_putIn 171 = .ok (.iload_n 3, 1) := by decide +kernel
theorem dX12_putIn_172 : decode cX12_putIn 172 = .ok (.iaload, 1) := by decide +kernel
theorem dX12_putIn_173 : decode cX12_putIn 173 = .ok (.iconst 0, 1) := by decide +kernel
theorem dX12_putIn_174 : decode cX12_putIn 174 = .ok (.iconst 0, 1) := by decide +kernel
theorem dX12_putIn_175 : decode cX12_putIn 175 = .ok (.invokevirtual 259, 3) := by decide +kernel
theorem dX12_putIn_178 : decode cX12_putIn 178 = .ok (.ifCond .eq 7, 3) := by decide +kernel
theorem dX12_putIn_181 : decode cX12_putIn 181 = .ok (.iconst 1, 1) := by decide +kernel
theorem dX12_putIn_182 : decode cX12_putIn 182 = .ok (.goto 19, 3) := by decide +kernel
theorem dX12_putIn_185 : decode cX12_putIn 185 = .ok (.iconst 0, 1) := by decide +kernel
theorem dX12_putIn_186 : decode cX12_putIn 186 = .ok (.goto 15, 3) := by decide +kernel
theorem dX12_putIn_189 : decode cX12_putIn 189 = .ok (.aload_n 0, 1) := by decide +kernel
theorem dX12_putIn_190 : decode cX12_putIn 190 = .ok (.aload_n 0, 1) := by decide +kernel
theorem dX12_putIn_191 : decode cX12_putIn 191 = .ok (.getfield 95, 3) := by decide +kernel
theorem dX12_putIn_194 : decode cX12_putIn 194 = .ok (.iload_n 3, 1) := by decide +kernel
theorem dX12_putIn_195 : decode cX12_putIn 195 = .ok (.iaload, 1) := by decide +kernel
theorem dX12_putIn_196 : decode cX12_putIn 196 = .ok (.iconst 0, 1) := by decide +kernel
theorem dX12_putIn_197 : decode cX12_putIn 197 = .ok (.iconst 0, 1) := by decide +kernel
theorem dX12_putIn_198 : decode cX12_putIn 198 = .ok (.invokevirtual 304, 3) := by decide +kernel
theorem dX12_putIn_201 : decode cX12_putIn 201 = .ok (.istore 14, 2) := by decide +kernel
theorem dX12_putIn_203 : decode cX12_putIn 203 = .ok (.iload 14, 2) := by decide +kernel
theorem dX12_putIn_205 : decode cX12_putIn 205 = .ok (.ifCond .ne 6, 3) := by decide +kernel
theorem dX12_putIn_208 : decode cX12_putIn 208 = .ok (.goto 107, 3) := by decide +kernel
theorem dX12_putIn_211 : decode cX12_putIn 211 = .ok (.aload_n 0, 1) := by decide +kernel
theorem dX12_putIn_212 : decode cX12_putIn 212 = .ok (.invokevirtual 269, 3) := by decide +kernel
theorem dX12_putIn_215 : decode cX12_putIn 215 = .ok (.aload_n 0, 1) := by decide +kernel
theorem dX12_putIn_216 : decode cX12_putIn 216 = .ok (.iload_n 1, 1) := by decide +kernel
theorem dX12_putIn_217 : decode cX12_putIn 217 = .ok (.invokevirtual 250, 3) := by decide +kernel
theorem dX12_putIn_220 : decode cX12_putIn 220 = .ok (.aload_n 0, 1) := by decide +kernel
theorem dX12_putIn_221 : decode cX12_putIn 221 = .ok (.bipush 65, 2) := by decide +kernel
theorem dX12_putIn_223 : decode cX12_putIn 223 = .ok (.iload_n 2, 1) := by decide +kernel
theorem dX12_putIn_224 : decode cX12_putIn 224 = .ok (.iadd, 1) := by decide +kernel
theorem dX12_putIn_225 : decode cX12_putIn 225 = .ok (.invokevirtual 250, 3) := by decide +kernel
theorem dX12_putIn_228 : decode cX12_putIn 228 = .ok (.aload_n 0, 1) := by decide +kernel
theorem dX12_putIn_229 : decode cX12_putIn 229 = .ok (.bipush 40, 2) := by decide +kernel
theorem dX12_putIn_231 : decode cX12_putIn 231 = .ok (.invokevirtual 250, 3) := by decide +kernel
theorem dX12_putIn_234 : decode cX12_putIn 234 = .ok (.aload_n 0, 1) := by decide +kernel
theorem dX12_putIn_235 : decode cX12_putIn 235 = .ok (.iload 12, 2) := by decide +kernel
theorem dX12_putIn_237 : decode cX12_putIn 237 = .ok (.invokevirtual 294, 3) := by decide +kernel
theorem dX12_putIn_240 : decode cX12_putIn 240 = .ok (.aload_n 0, 1) := by decide +kernel
theorem dX12_putIn_241 : decode cX12_putIn 241 = .ok (.bipush 41, 2) := by decide +kernel
theorem dX12_putIn_243 : decode cX12_putIn 243 = .ok (.invokevirtual 250, 3) := by decide +kernel
theorem dX12_putIn_246 : decode cX12_putIn 246 = .ok (.aload_n 0, 1) := by decide +kernel
theorem dX12_putIn_247 : decode cX12_putIn 247 = .ok (.bipush 48, 2) := by decide +kernel
theorem dX12_putIn_249 : decode cX12_putIn 249 = .ok (.iload 10, 2) := by decide +kernel
theorem dX12_putIn_251 : decode cX12_putIn 251 = .ok (.iadd, 1) := by decide +kernel
theorem dX12_putIn_252 : decode cX12_putIn 252 = .ok (.invokevirtual 250, 3) := by decide +kernel
theorem dX12_putIn_255 : decode cX12_putIn 255 = .ok (.aload_n 0, 1) := by decide +kernel
theorem dX12_putIn_256 : decode cX12_putIn 256 = .ok (.iload 13, 2) := by decide +kernel
theorem dX12_putIn_258 : decode cX12_putIn 258 = .ok (.ifCond .ne 8, 3) := by decide +kernel
theorem dX12_putIn_261 : decode cX12_putIn 261 = .ok (.bipush 108, 2) := by decide +kernel
theorem dX12_putIn_263 : decode cX12_putIn 263 = .ok (.goto 5, 3) := by decide +kernel
theorem dX12_putIn_266 : decode cX12_putIn 266 = .ok (.bipush 109, 2) := by decide +kernel
theorem dX12_putIn_268 : decode cX12_putIn 268 = .ok (.invokevirtual 250, 3) := by decide +kernel
theorem dX12_putIn_271 : decode cX12_putIn 271 = .ok (.aload_n 0, 1) := by decide +kernel
theorem dX12_putIn_272 : decode cX12_putIn 272 = .ok (.bipush 65, 2) := by decide +kernel
theorem dX12_putIn_274 : decode cX12_putIn 274 = .ok (.iload_n 3, 1) := by decide +kernel
theorem dX12_putIn_275 : decode cX12_putIn 275 = .ok (.iadd, 1) := by decide +kernel
theorem dX12_putIn_276 : decode cX12_putIn 276 = .ok (.invokevirtual 250, 3) := by decide +kernel
theorem dX12_putIn_279 : decode cX12_putIn 279 = .ok (.aload_n 0, 1) := by decide +kernel
theorem dX12_putIn_280 : decode cX12_putIn 280 = .ok (.aload_n 0, 1) := by decide +kernel
theorem dX12_putIn_281 : decode cX12_putIn 281 = .ok (.getfield 79, 3) := by decide +kernel
theorem dX12_putIn_284 : decode cX12_putIn 284 = .ok (.iload 12, 2) := by decide +kernel
theorem dX12_putIn_286 : decode cX12_putIn 286 = .ok (.iaload, 1) := by decide +kernel
theorem dX12_putIn_287 : decode cX12_putIn 287 = .ok (.iload 14, 2) := by decide +kernel
theorem dX12_putIn_289 : decode cX12_putIn 289 = .ok (.invokestatic 308, 3) := by decide +kernel
theorem dX12_putIn_292 : decode cX12_putIn 292 = .ok (.iconst 1, 1) := by decide +kernel
theorem dX12_putIn_293 : decode cX12_putIn 293 = .ok (.aload_n 0, 1) := by decide +kernel
theorem dX12_putIn_294 : decode cX12_putIn 294 = .ok (.getfield 82, 3) := by decide +kernel
theorem dX12_putIn_297 : decode cX12_putIn 297 = .ok (.iload 12, 2) := by decide +kernel
theorem dX12_putIn_299 : decode cX12_putIn 299 = .ok (.iaload, 1) := by decide +kernel
theorem dX12_putIn_300 : decode cX12_putIn 300 = .ok (.iadd, 1) := by decide +kernel
theorem dX12_putIn_301 : decode cX12_putIn 301 = .ok (.iload 13, 2) := by decide +kernel
theorem dX12_putIn_303 : decode cX12_putIn 303 = .ok (.ifCond .ne 7, 3) := by decide +kernel
theorem dX12_putIn_306 : decode cX12_putIn 306 = .ok (.iconst 2, 1) := by decide +kernel
theorem dX12_putIn_307 : decode cX12_putIn 307 = .ok (.goto 4, 3) := by decide +kernel
theorem dX12_putIn_310 : decode cX12_putIn 310 = .ok (.iconst 1, 1) := by decide +kernel
theorem dX12_putIn_311 : decode cX12_putIn 311 = .ok (.iadd, 1) := by decide +kernel
theorem dX12_putIn_312 : decode cX12_putIn 312 = .ok (.invokevirtual 280, 3) := by decide +kernel
theorem dX12_putIn_315 : decode cX12_putIn 315 = .ok (.iinc 13 1, 3) := by decide +kernel
theorem dX12_putIn_318 : decode cX12_putIn 318 = .ok (.goto (-163), 3) := by decide +kernel
theorem dX12_putIn_321 : decode cX12_putIn 321 = .ok (.iinc 10 1, 3) := by decide +kernel
theorem dX12_putIn_324 : decode cX12_putIn 324 = .ok (.goto (-307), 3) := by decide +kernel
theorem dX12_putIn_327 : decode cX12_putIn 327 = .ok (.iinc 9 1, 3) := by decide +kernel
theorem dX12_putIn_330 : decode cX12_putIn 330 = .ok (.goto (-327), 3) := by decide +kernel
theorem dX12_putIn_333 : decode cX12_putIn 333 = .ok (.return_, 1) := by decide +kernel
def K_X12_putIn_3 (G : xG) (l : Launch) (d : Nat) (P : xMem → Prop) (v1 v2 v3 v4 v5 v6 v7 v8 v9 : Int) (μ : xMem) : Prop := RR G l d 0 0 false mX12_putIn (qV P) 3 [some (xr G 74), some (xi v1), some (xi v2), some (xi v3), some (xi v4), some (xi v5), some (xi v6), some (xi v7), some (xi v8), some (xi v9), none, none, none, none, none] [] LAY μ 0 0
def K_X12_putIn_17 (G : xG) (l : Launch) (d : Nat) (P : xMem → Prop) (v1 v2 v3 v4 v5 v6 v7 v8 v9 v10 : Int) (μ : xMem) : Prop := RR G l d 0 0 false mX12_putIn (qV P) 17 [some (xr G 74), some (xi v1), some (xi v2), some (xi v3), some (xi v4), some (xi v5), some (xi v6), some (xi v7), some (xi v8), some (xi v9), some (xi v10), none, none, none, none] [] LAY μ 0 0
def K_X12_putIn_50 (G : xG) (l : Launch) (d : Nat) (P : xMem → Prop) (v1 v2 v3 v4 v5 v6 v7 v8 v9 v10 s0 : Int) (μ : xMem) : Prop := RR G l d 0 0 false mX12_putIn (qV P) 50 [some (xr G 74), some (xi v1), some (xi v2), some (xi v3), some (xi v4), some (xi v5), some (xi v6), some (xi v7), some (xi v8), some (xi v9), some (xi v10), none, none, none, none] [xi s0] LAY μ 0 0
def K_X12_putIn_91 (G : xG) (l : Launch) (d : Nat) (P : xMem → Prop) (v1 v2 v3 v4 v5 v6 v7 v8 v9 v10 v12 v13 : Int) (μ : xMem) : Prop := RR G l d 0 0 false mX12_putIn (qV P) 91 [some (xr G 74), some (xi v1), some (xi v2), some (xi v3), some (xi v4), some (xi v5), some (xi v6), some (xi v7), some (xi v8), some (xi v9), some (xi v10), none, some (xi v12), some (xi v13), none] [] LAY μ 0 0
def K_X12_putIn_155 (G : xG) (l : Launch) (d : Nat) (P : xMem → Prop) (v1 v2 v3 v4 v5 v6 v7 v8 v9 v10 v12 v13 : Int) (μ : xMem) : Prop := RR G l d 0 0 false mX12_putIn (qV P) 155 [some (xr G 74), some (xi v1), some (xi v2), some (xi v3), some (xi v4), some (xi v5), some (xi v6), some (xi v7), some (xi v8), some (xi v9), some (xi v10), none, some (xi v12), some (xi v13), none] [] LAY μ 0 0
def K_X12_putIn_120 (G : xG) (l : Launch) (d : Nat) (P : xMem → Prop) (v1 v2 v3 v4 v5 v6 v7 v8 v9 v10 v12 v13 : Int) (μ : xMem) : Prop := RR G l d 0 0 false mX12_putIn (qV P) 120 [some (xr G 74), some (xi v1), some (xi v2), some (xi v3), some (xi v4), some (xi v5), some (xi v6), some (xi v7), some (xi v8), some (xi v9), some (xi v10), none, some (xi v12), some (xi v13), none] [] LAY μ 0 0
def K_X12_putIn_201 (G : xG) (l : Launch) (d : Nat) (P : xMem → Prop) (v1 v2 v3 v4 v5 v6 v7 v8 v9 v10 v12 v13 s0 : Int) (μ : xMem) : Prop := RR G l d 0 0 false mX12_putIn (qV P) 201 [some (xr G 74), some (xi v1), some (xi v2), some (xi v3), some (xi v4), some (xi v5), some (xi v6), some (xi v7), some (xi v8), some (xi v9), some (xi v10), none, some (xi v12), some (xi v13), none] [xi s0] LAY μ 0 0
def K_X12_putIn_268 (G : xG) (l : Launch) (d : Nat) (P : xMem → Prop) (v1 v2 v3 v4 v5 v6 v7 v8 v9 v10 v12 v13 v14 s1 : Int) (μ : xMem) : Prop := RR G l d 0 0 false mX12_putIn (qV P) 268 [some (xr G 74), some (xi v1), some (xi v2), some (xi v3), some (xi v4), some (xi v5), some (xi v6), some (xi v7), some (xi v8), some (xi v9), some (xi v10), none, some (xi v12), some (xi v13), some (xi v14)] [xi s1, xr G 74] LAY μ 0 0
set_option maxRecDepth 20000 in
theorem E_X12_putIn {G : xG} {l : Launch} {d : Nat} {P : xMem → Prop} {v1 v2 v3 v4 v5 v6 v7 v8 : Int} {μ : xMem} (h : K_X12_putIn_3 G l (d + 1) P v1 v2 v3 v4 v5 v6 v7 v8 1 μ) : CV G l (d + 1) mX12_putIn [xr G 74, xi v1, xi v2, xi v3, xi v4, xi v5, xi v6, xi v7, xi v8] μ P := by
  refine CC.ofRR (ll := [some (xr G 74), some (xi v1), some (xi v2), some (xi v3), some (xi v4), some (xi v5), some (xi v6), some (xi v7), some (xi v8), none, none, none, none, none, none]) (by decide +kernel) (Nat.le_of_ble_eq_true rfl) rfl (fun h => by cases h) ?_
  refine xr_iconst dX12_putIn_0 ?_
  refine xr_istore' (ll' := [some (xr G 74), some (xi v1), some (xi v2), some (xi v3), some (xi v4), some (xi v5), some (xi v6), some (xi v7), some (xi v8), some (xi 1), none, none, none, none, none]) dX12_putIn_1 (by decide) rfl rfl ?_
  exact h
set_option maxRecDepth 20000 in
theorem B_X12_putIn_3 {G : xG} {l : Launch} {d : Nat} {P : xMem → Prop} {v1 v2 v3 v4 v5 v6 v7 v8 v9 : Int} {μ : xMem} (h : (iR v9 ∧ iR ((μ 74 43) - 2) ∧ (((μ 74 43) - 2) < v9 → P μ) ∧ (v9 ≤ ((μ 74 43) - 2) → K_X12_putIn_17 G l (d + 1) P v1 v2 v3 v4 v5 v6 v7 v8 v9 1 μ))) : K_X12_putIn_3 G l (d + 1) P v1 v2 v3 v4 v5 v6 v7 v8 v9 μ := by
  unfold K_X12_putIn_3
  refine xr_iload dX12_putIn_3 rfl ?_
  refine xr_aload_n dX12_putIn_5 rfl ?_
  refine xr_getI' (v := μ 74 43) dX12_putIn_6 fl_X12_253 L_74 rfl rfl rfl ?_
  refine xr_iconst dX12_putIn_9 ?_
  refine xr_isub dX12_putIn_10 ?_
  obtain ⟨q1, q2, hT3, hF4⟩ := h
  refine xr_icmp_gt (tgt := 333) dX12_putIn_11 (by decide) q1 q2 (fun c => ?_) (fun c => ?_)
  · have h := hT3 c
    exact xr_ret dX12_putIn_333 rfl ⟨rfl, rfl, h⟩
  · have h := hF4 (Int.not_lt.mp c)
    refine xr_iconst dX12_putIn_14 ?_
    refine xr_istore' (ll' := [some (xr G 74), some (xi v1), some (xi v2), some (xi v3), some (xi v4), some (xi v5), some (xi v6), some (xi v7), some (xi v8), some (xi v9), some (xi 1), none, none, none, none]) dX12_putIn_15 (by decide) rfl rfl ?_
    exact h
set_option maxRecDepth 20000 in
theorem B_X12_putIn_17 {G : xG} {l : Launch} {d : Nat} {P : xMem → Prop} {v1 v2 v3 v4 v5 v6 v7 v8 v9 v10 : Int} {μ : xMem} (h : (iR (v10 + v9) ∧ iR (μ 74 43) ∧ ((μ 74 43) ≤ (v10 + v9) → K_X12_putIn_3 G l (d + 1) P v1 v2 v3 v4 v5 v6 v7 v8 (v9 + 1) μ) ∧ ((v10 + v9) < (μ 74 43) → (iR v8 ∧ (v8 ≠ 0 → K_X12_putIn_50 G l (d + 1) P v1 v2 v3 v4 v5 v6 v7 v8 v9 v10 ((v7 - v10) - v9) μ) ∧ (v8 = 0 → K_X12_putIn_50 G l (d + 1) P v1 v2 v3 v4 v5 v6 v7 v8 v9 v10 (v6 + v10) μ))))) : K_X12_putIn_17 G l (d + 1) P v1 v2 v3 v4 v5 v6 v7 v8 v9 v10 μ := by
  unfold K_X12_putIn_17
  refine xr_iload dX12_putIn_17 rfl ?_
  refine xr_iload dX12_putIn_19 rfl ?_
  refine xr_iadd dX12_putIn_21 ?_
  refine xr_aload_n dX12_putIn_22 rfl ?_
  refine xr_getI' (v := μ 74 43) dX12_putIn_23 fl_X12_253 L_74 rfl rfl rfl ?_
  obtain ⟨q1, q2, hT3, hF4⟩ := h
  refine xr_icmp_ge (tgt := 327) dX12_putIn_26 (by decide) q1 q2 (fun c => ?_) (fun c => ?_)
  · have h := hT3 c
    refine xr_iinc' (ll' := [some (xr G 74), some (xi v1), some (xi v2), some (xi v3), some (xi v4), some (xi v5), some (xi v6), some (xi v7), some (xi v8), some (xi (v9 + 1)), some (xi v10), none, none, none, none]) dX12_putIn_327 rfl (by decide) rfl rfl ?_
    refine xr_goto (tgt := 3) dX12_putIn_330 (by decide) ?_
    refine xr_wk (ll' := [some (xr G 74), some (xi v1), some (xi v2), some (xi v3), some (xi v4), some (xi v5), some (xi v6), some (xi v7), some (xi v8), some (xi (v9 + 1)), none, none, none, none, none]) ⟨rfl, ⟨rfl, ⟨rfl, ⟨rfl, ⟨rfl, ⟨rfl, ⟨rfl, ⟨rfl, ⟨rfl, ⟨rfl, trivial⟩⟩⟩⟩⟩⟩⟩⟩⟩⟩ ?_
    exact h
  · have h := hF4 (Int.not_le.mp c)
    refine xr_iload dX12_putIn_29 rfl ?_
    obtain ⟨q5, hT6, hF7⟩ := h
    refine xr_if_ne (tgt := 42) dX12_putIn_31 (by decide) q5  (fun c => ?_) (fun c => ?_)
    · have h := hT6 c
      refine xr_iload dX12_putIn_42 rfl ?_
      refine xr_iload dX12_putIn_44 rfl ?_
      refine xr_isub dX12_putIn_46 ?_
      refine xr_iload dX12_putIn_47 rfl ?_
      refine xr_isub dX12_putIn_49 ?_
      exact h
    · have h := hF7 c
      refine xr_iload dX12_putIn_34 rfl ?_
      refine xr_iload dX12_putIn_36 rfl ?_
      refine xr_iadd dX12_putIn_38 ?_
      refine xr_goto (tgt := 50) dX12_putIn_39 (by decide) ?_
      exact h
set_option maxRecDepth 20000 in
theorem B_X12_putIn_50 {G : xG} {l : Launch} {d : Nat} {P : xMem → Prop} {v1 v2 v3 v4 v5 v6 v7 v8 v9 v10 s0 : Int} {μ : xMem} (h : CI G l d mX12_at [xi v4, xi v5, xi s0, xi (s0 + v9), xi v8] μ (fun r1 m2 => ((0 ≤ r1 ∧ r1 < 3960) ∧ (iR (m2 95 r1) ∧ ((m2 95 r1) ≠ 0 → K_X12_putIn_91 G l (d + 1) P v1 v2 v3 v4 v5 v6 v7 v8 v9 v10 r1 0 (st2 m2 74 44 0)) ∧ ((m2 95 r1) = 0 → K_X12_putIn_17 G l (d + 1) P v1 v2 v3 v4 v5 v6 v7 v8 v9 (v10 + 1) m2))))) : K_X12_putIn_50 G l (d + 1) P v1 v2 v3 v4 v5 v6 v7 v8 v9 v10 s0 μ := by
  unfold K_X12_putIn_50
  refine xr_istore' (ll' := [some (xr G 74), some (xi v1), some (xi v2), some (xi v3), some (xi v4), some (xi v5), some (xi v6), some (xi v7), some (xi v8), some (xi v9), some (xi v10), some (xi s0), none, none, none]) dX12_putIn_50 (by decide) rfl rfl ?_
  refine xr_iload dX12_putIn_52 rfl ?_
  refine xr_iload dX12_putIn_54 rfl ?_
  refine xr_iload dX12_putIn_56 rfl ?_
  refine xr_iload dX12_putIn_58 rfl ?_
  refine xr_iload dX12_putIn_60 rfl ?_
  refine xr_iadd dX12_putIn_62 ?_
  refine xr_iload dX12_putIn_63 rfl ?_
  refine xr_csI (As := [xi v4, xi v5, xi s0, xi (s0 + v9), xi v8]) dX12_putIn_65 ms_X12_at ml_X12_290 rfl rfl (Nat.le_of_ble_eq_true rfl) h (fun r1 m2 hr1 h => ?_)
  refine xr_istore' (ll' := [some (xr G 74), some (xi v1), some (xi v2), some (xi v3), some (xi v4), some (xi v5), some (xi v6), some (xi v7), some (xi v8), some (xi v9), some (xi v10), some (xi s0), some (xi r1), none, none]) dX12_putIn_68 (by decide) rfl rfl ?_
  refine xr_aload_n dX12_putIn_70 rfl ?_
  refine xr_getR dX12_putIn_71 fl_X12_79 L_74 rfl ?_
  refine xr_iload dX12_putIn_74 rfl ?_
  obtain ⟨q3, h⟩ := h
  refine xr_iaload' (v := m2 95 r1) dX12_putIn_76 L_95 rfl (by decide) q3 rfl ?_
  obtain ⟨q4, hT5, hF6⟩ := h
  refine xr_if_ne (tgt := 83) dX12_putIn_77 (by decide) q4  (fun c => ?_) (fun c => ?_)
  · have h := hT5 c
    refine xr_aload_n dX12_putIn_83 rfl ?_
    refine xr_iconst dX12_putIn_84 ?_
    refine xr_putI dX12_putIn_85 fp_X12_256 L_74 rfl rfl ⟨rfl, rfl⟩ ?_
    refine xr_iconst dX12_putIn_88 ?_
    refine xr_istore' (ll' := [some (xr G 74), some (xi v1), some (xi v2), some (xi v3), some (xi v4), some (xi v5), some (xi v6), some (xi v7), some (xi v8), some (xi v9), some (xi v10), some (xi s0), some (xi r1), some (xi 0), none]) dX12_putIn_89 (by decide) rfl rfl ?_
    refine xr_wk (ll' := [some (xr G 74), some (xi v1), some (xi v2), some (xi v3), some (xi v4), some (xi v5), some (xi v6), some (xi v7), some (xi v8), some (xi v9), some (xi v10), none, some (xi r1), some (xi 0), none]) ⟨rfl, ⟨rfl, ⟨rfl, ⟨rfl, ⟨rfl, ⟨rfl, ⟨rfl, ⟨rfl, ⟨rfl, ⟨rfl, ⟨rfl, ⟨rfl, ⟨rfl, trivial⟩⟩⟩⟩⟩⟩⟩⟩⟩⟩⟩⟩⟩ ?_
    exact h
  · have h := hF6 c
    refine xr_goto (tgt := 321) dX12_putIn_80 (by decide) ?_
    refine xr_iinc' (ll' := [some (xr G 74), some (xi v1), some (xi v2), some (xi v3), some (xi v4), some (xi v5), some (xi v6), some (xi v7), some (xi v8), some (xi v9), some (xi (v10 + 1)), some (xi s0), some (xi r1), none, none]) dX12_putIn_321 rfl (by decide) rfl rfl ?_
    refine xr_goto (tgt := 17) dX12_putIn_324 (by decide) ?_
    refine xr_wk (ll' := [some (xr G 74), some (xi v1), some (xi v2), some (xi v3), some (xi v4), some (xi v5), some (xi v6), some (xi v7), some (xi v8), some (xi v9), some (xi (v10 + 1)), none, none, none, none]) ⟨rfl, ⟨rfl, ⟨rfl, ⟨rfl, ⟨rfl, ⟨rfl, ⟨rfl, ⟨rfl, ⟨rfl, ⟨rfl, ⟨rfl, trivial⟩⟩⟩⟩⟩⟩⟩⟩⟩⟩⟩ ?_
    exact h
set_option maxRecDepth 20000 in
theorem B_X12_putIn_91 {G : xG} {l : Launch} {d : Nat} {P : xMem → Prop} {v1 v2 v3 v4 v5 v6 v7 v8 v9 v10 v12 v13 : Int} {μ : xMem} (h : (iR v13 ∧ iR (μ 74 43) ∧ ((μ 74 43) ≤ v13 → K_X12_putIn_155 G l (d + 1) P v1 v2 v3 v4 v5 v6 v7 v8 v9 v10 v12 0 μ) ∧ (v13 < (μ 74 43) → (iR v10 ∧ (v13 < v10 → K_X12_putIn_120 G l (d + 1) P v1 v2 v3 v4 v5 v6 v7 v8 v9 v10 v12 v13 μ) ∧ (v10 ≤ v13 → (iR (v10 + v9) ∧ ((v10 + v9) ≤ v13 → K_X12_putIn_120 G l (d + 1) P v1 v2 v3 v4 v5 v6 v7 v8 v9 v10 v12 v13 μ) ∧ (v13 < (v10 + v9) → K_X12_putIn_91 G l (d + 1) P v1 v2 v3 v4 v5 v6 v7 v8 v9 v10 v12 (v13 + 1) μ))))))) : K_X12_putIn_91 G l (d + 1) P v1 v2 v3 v4 v5 v6 v7 v8 v9 v10 v12 v13 μ := by
  unfold K_X12_putIn_91
  refine xr_iload dX12_putIn_91 rfl ?_
  refine xr_aload_n dX12_putIn_93 rfl ?_
  refine xr_getI' (v := μ 74 43) dX12_putIn_94 fl_X12_253 L_74 rfl rfl rfl ?_
  obtain ⟨q1, q2, hT3, hF4⟩ := h
  refine xr_icmp_ge (tgt := 152) dX12_putIn_97 (by decide) q1 q2 (fun c => ?_) (fun c => ?_)
  · have h := hT3 c
    refine xr_iconst dX12_putIn_152 ?_
    refine xr_istore' (ll' := [some (xr G 74), some (xi v1), some (xi v2), some (xi v3), some (xi v4), some (xi v5), some (xi v6), some (xi v7), some (xi v8), some (xi v9), some (xi v10), none, some (xi v12), some (xi 0), none]) dX12_putIn_153 (by decide) rfl rfl ?_
    exact h
  · have h := hF4 (Int.not_le.mp c)
    refine xr_iload dX12_putIn_100 rfl ?_
    refine xr_iload dX12_putIn_102 rfl ?_
    obtain ⟨q5, hT6, hF7⟩ := h
    refine xr_icmp_lt (tgt := 120) dX12_putIn_104 (by decide) q1 q5 (fun c => ?_) (fun c => ?_)
    · have h := hT6 c
      exact h
    · have h := hF7 (Int.not_lt.mp c)
      refine xr_iload dX12_putIn_107 rfl ?_
      refine xr_iload dX12_putIn_109 rfl ?_
      refine xr_iload dX12_putIn_111 rfl ?_
      refine xr_iadd dX12_putIn_113 ?_
      obtain ⟨q8, hT9, hF10⟩ := h
      refine xr_icmp_ge (tgt := 120) dX12_putIn_114 (by decide) q1 q8 (fun c => ?_) (fun c => ?_)
      · have h := hT9 c
        exact h
      · have h := hF10 (Int.not_le.mp c)
        refine xr_goto (tgt := 146) dX12_putIn_117 (by decide) ?_
        refine xr_iinc' (ll' := [some (xr G 74), some (xi v1), some (xi v2), some (xi v3), some (xi v4), some (xi v5), some (xi v6), some (xi v7), some (xi v8), some (xi v9), some (xi v10), none, some (xi v12), some (xi (v13 + 1)), none]) dX12_putIn_146 rfl (by decide) rfl rfl ?_
        refine xr_goto (tgt := 91) dX12_putIn_149 (by decide) ?_
        exact h
set_option maxRecDepth 20000 in
theorem B_X12_putIn_155 {G : xG} {l : Launch} {d : Nat} {P : xMem → Prop} {v1 v2 v3 v4 v5 v6 v7 v8 v9 v10 v12 v13 : Int} {μ : xMem} (h : (iR v13 ∧ (2 ≤ v13 → K_X12_putIn_17 G l (d + 1) P v1 v2 v3 v4 v5 v6 v7 v8 v9 (v10 + 1) μ) ∧ (v13 < 2 → ((v13 ≠ 0 → ((0 ≤ v3 ∧ v3 < 8) ∧ CI G l d mX12_meant [xr G 74, xi (μ 100 v3), xi 0, xi 0] μ (fun r7 m8 => K_X12_putIn_201 G l (d + 1) P v1 v2 v3 v4 v5 v6 v7 v8 v9 v10 v12 v13 r7 m8))) ∧ (v13 = 0 → ((0 ≤ v3 ∧ v3 < 8) ∧ CI G l d mX12_isAround [xr G 74, xi (μ 100 v3), xi 0, xi 0] μ (fun r10 m11 => ((r10 = 0 → K_X12_putIn_201 G l (d + 1) P v1 v2 v3 v4 v5 v6 v7 v8 v9 v10 v12 v13 0 m11) ∧ (r10 ≠ 0 → K_X12_putIn_201 G l (d + 1) P v1 v2 v3 v4 v5 v6 v7 v8 v9 v10 v12 v13 1 m11))))))))) : K_X12_putIn_155 G l (d + 1) P v1 v2 v3 v4 v5 v6 v7 v8 v9 v10 v12 v13 μ := by
  unfold K_X12_putIn_155
  refine xr_iload dX12_putIn_155 rfl ?_
  refine xr_iconst dX12_putIn_157 ?_
  obtain ⟨q1, hT2, hF3⟩ := h
  refine xr_icmp_ge (tgt := 321) dX12_putIn_158 (by decide) q1 (by decide) (fun c => ?_) (fun c => ?_)
  · have h := hT2 c
    refine xr_iinc' (ll' := [some (xr G 74), some (xi v1), some (xi v2), some (xi v3), some (xi v4), some (xi v5), some (xi v6), some (xi v7), some (xi v8), some (xi v9), some (xi (v10 + 1)), none, some (xi v12), some (xi v13), none]) dX12_putIn_321 rfl (by decide) rfl rfl ?_
    refine xr_goto (tgt := 17) dX12_putIn_324 (by decide) ?_
    refine xr_wk (ll' := [some (xr G 74), some (xi v1), some (xi v2), some (xi v3), some (xi v4), some (xi v5), some (xi v6), some (xi v7), some (xi v8), some (xi v9), some (xi (v10 + 1)), none, none, none, none]) ⟨rfl, ⟨rfl, ⟨rfl, ⟨rfl, ⟨rfl, ⟨rfl, ⟨rfl, ⟨rfl, ⟨rfl, ⟨rfl, ⟨rfl, trivial⟩⟩⟩⟩⟩⟩⟩⟩⟩⟩⟩ ?_
    exact h
  · have h := hF3 (Int.not_le.mp c)
    refine xr_iload dX12_putIn_161 rfl ?_
    obtain ⟨hT4, hF5⟩ := h
    refine xr_if_ne (tgt := 189) dX12_putIn_163 (by decide) q1  (fun c => ?_) (fun c => ?_)
    · have h := hT4 c
      refine xr_aload_n dX12_putIn_189 rfl ?_
      refine xr_aload_n dX12_putIn_190 rfl ?_
      refine xr_getR dX12_putIn_191 fl_X12_95 L_74 rfl ?_
      refine xr_iload_n dX12_putIn_194 rfl ?_
      obtain ⟨q6, h⟩ := h
      refine xr_iaload' (v := μ 100 v3) dX12_putIn_195 L_100 rfl (by decide) q6 rfl ?_
      refine xr_iconst dX12_putIn_196 ?_
      refine xr_iconst dX12_putIn_197 ?_
      refine xr_cvI (As := [xi (μ 100 v3), xi 0, xi 0]) dX12_putIn_198 mi_X12_meant ml_X12_304 se_X12_meant L_74 rfl rfl rfl (Nat.le_of_ble_eq_true rfl) h (fun r7 m8 hr7 h => ?_)
      exact h
    · have h := hF5 c
      refine xr_aload_n dX12_putIn_166 rfl ?_
      refine xr_aload_n dX12_putIn_167 rfl ?_
      refine xr_getR dX12_putIn_168 fl_X12_95 L_74 rfl ?_
      refine xr_iload_n dX12_putIn_171 rfl ?_
      obtain ⟨q9, h⟩ := h
      refine xr_iaload' (v := μ 100 v3) dX12_putIn_172 L_100 rfl (by decide) q9 rfl ?_
      refine xr_iconst dX12_putIn_173 ?_
      refine xr_iconst dX12_putIn_174 ?_
      refine xr_cvI (As := [xi (μ 100 v3), xi 0, xi 0]) dX12_putIn_175 mi_X12_isAround ml_X12_259 se_X12_isAround L_74 rfl rfl rfl (Nat.le_of_ble_eq_true rfl) h (fun r10 m11 hr10 h => ?_)
      obtain ⟨hT12, hF13⟩ := h
      refine xr_if_eq (tgt := 185) dX12_putIn_178 (by decide) hr10  (fun c => ?_) (fun c => ?_)
      · have h := hT12 c
        refine xr_iconst dX12_putIn_185 ?_
        refine xr_goto (tgt := 201) dX12_putIn_186 (by decide) ?_
        exact h
      · have h := hF13 c
        refine xr_iconst dX12_putIn_181 ?_
        refine xr_goto (tgt := 201) dX12_putIn_182 (by decide) ?_
        exact h
set_option maxRecDepth 20000 in
theorem B_X12_putIn_120 {G : xG} {l : Launch} {d : Nat} {P : xMem → Prop} {v1 v2 v3 v4 v5 v6 v7 v8 v9 v10 v12 v13 : Int} {μ : xMem} (h : ((0 ≤ v13 ∧ v13 < 10) ∧ ((0 ≤ μ 74 44 ∧ μ 74 44 < 10) ∧ K_X12_putIn_91 G l (d + 1) P v1 v2 v3 v4 v5 v6 v7 v8 v9 v10 v12 (v13 + 1) (st2 (st2 μ 103 (μ 74 44) (μ 102 v13)) 74 44 ((μ 74 44) + 1))))) : K_X12_putIn_120 G l (d + 1) P v1 v2 v3 v4 v5 v6 v7 v8 v9 v10 v12 v13 μ := by
  unfold K_X12_putIn_120
  refine xr_aload_n dX12_putIn_120 rfl ?_
  refine xr_getR dX12_putIn_121 fl_X12_104 L_74 rfl ?_
  refine xr_aload_n dX12_putIn_124 rfl ?_
  refine xr_getI' (v := μ 74 44) dX12_putIn_125 fl_X12_256 L_74 rfl rfl rfl ?_
  refine xr_aload_n dX12_putIn_128 rfl ?_
  refine xr_getR dX12_putIn_129 fl_X12_101 L_74 rfl ?_
  refine xr_iload dX12_putIn_132 rfl ?_
  obtain ⟨q1, h⟩ := h
  refine xr_iaload' (v := μ 102 v13) dX12_putIn_134 L_102 rfl (by decide) q1 rfl ?_
  obtain ⟨q2, h⟩ := h
  refine xr_iastore dX12_putIn_135 L_103 rfl (by decide) q2 ?_
  refine xr_aload_n dX12_putIn_136 rfl ?_
  refine xr_dup dX12_putIn_137 rfl ?_
  refine xr_getI' (v := μ 74 44) dX12_putIn_138 fl_X12_256 L_74 rfl rfl (by simp [st2, cpy]) ?_
  refine xr_iconst dX12_putIn_141 ?_
  refine xr_iadd dX12_putIn_142 ?_
  refine xr_putI dX12_putIn_143 fp_X12_256 L_74 rfl rfl ⟨rfl, rfl⟩ ?_
  refine xr_iinc' (ll' := [some (xr G 74), some (xi v1), some (xi v2), some (xi v3), some (xi v4), some (xi v5), some (xi v6), some (xi v7), some (xi v8), some (xi v9), some (xi v10), none, some (xi v12), some (xi (v13 + 1)), none]) dX12_putIn_146 rfl (by decide) rfl rfl ?_
  refine xr_goto (tgt := 91) dX12_putIn_149 (by decide) ?_
  exact h
set_option maxRecDepth 20000 in
theorem B_X12_putIn_201 {G : xG} {l : Launch} {d : Nat} {P : xMem → Prop} {v1 v2 v3 v4 v5 v6 v7 v8 v9 v10 v12 v13 s0 : Int} {μ : xMem} (h : (iR s0 ∧ (s0 ≠ 0 → CV G l d mX12_open [xr G 74] μ (fun m5 => CV G l d mX12_say [xr G 74, xi v1] m5 (fun m7 => CV G l d mX12_say [xr G 74, xi (65 + v2)] m7 (fun m9 => CV G l d mX12_say [xr G 74, xi 40] m9 (fun m11 => CV G l d mX12_sayRow [xr G 74, xi v12] m11 (fun m13 => CV G l d mX12_say [xr G 74, xi 41] m13 (fun m15 => CV G l d mX12_say [xr G 74, xi (48 + v10)] m15 (fun m17 => (iR v13 ∧ (v13 ≠ 0 → K_X12_putIn_268 G l (d + 1) P v1 v2 v3 v4 v5 v6 v7 v8 v9 v10 v12 v13 s0 109 m17) ∧ (v13 = 0 → K_X12_putIn_268 G l (d + 1) P v1 v2 v3 v4 v5 v6 v7 v8 v9 v10 v12 v13 s0 108 m17)))))))))) ∧ (s0 = 0 → K_X12_putIn_155 G l (d + 1) P v1 v2 v3 v4 v5 v6 v7 v8 v9 v10 v12 (v13 + 1) μ))) : K_X12_putIn_201 G l (d + 1) P v1 v2 v3 v4 v5 v6 v7 v8 v9 v10 v12 v13 s0 μ := by
  unfold K_X12_putIn_201
  refine xr_istore' (ll' := [some (xr G 74), some (xi v1), some (xi v2), some (xi v3), some (xi v4), some (xi v5), some (xi v6), some (xi v7), some (xi v8), some (xi v9), some (xi v10), none, some (xi v12), some (xi v13), some (xi s0)]) dX12_putIn_201 (by decide) rfl rfl ?_
  refine xr_iload dX12_putIn_203 rfl ?_
  obtain ⟨q1, hT2, hF3⟩ := h
  refine xr_if_ne (tgt := 211) dX12_putIn_205 (by decide) q1  (fun c => ?_) (fun c => ?_)
  · have h := hT2 c
    refine xr_aload_n dX12_putIn_211 rfl ?_
    refine xr_cvV (As := []) dX12_putIn_212 mi_X12_open ml_X12_269 se_X12_open L_74 rfl rfl rfl (Nat.le_of_ble_eq_true rfl) h (fun m5 h => ?_)
    refine xr_aload_n dX12_putIn_215 rfl ?_
    refine xr_iload_n dX12_putIn_216 rfl ?_
    refine xr_cvV (As := [xi v1]) dX12_putIn_217 mi_X12_say ml_X12_250 se_X12_say L_74 rfl rfl rfl (Nat.le_of_ble_eq_true rfl) h (fun m7 h => ?_)
    refine xr_aload_n dX12_putIn_220 rfl ?_
    refine xr_bipush dX12_putIn_221 (by decide) ?_
    refine xr_iload_n dX12_putIn_223 rfl ?_
    refine xr_iadd dX12_putIn_224 ?_
    refine xr_cvV (As := [xi (65 + v2)]) dX12_putIn_225 mi_X12_say ml_X12_250 se_X12_say L_74 rfl rfl rfl (Nat.le_of_ble_eq_true rfl) h (fun m9 h => ?_)
    refine xr_aload_n dX12_putIn_228 rfl ?_
    refine xr_bipush dX12_putIn_229 (by decide) ?_
    refine xr_cvV (As := [xi 40]) dX12_putIn_231 mi_X12_say ml_X12_250 se_X12_say L_74 rfl rfl rfl (Nat.le_of_ble_eq_true rfl) h (fun m11 h => ?_)
    refine xr_aload_n dX12_putIn_234 rfl ?_
    refine xr_iload dX12_putIn_235 rfl ?_
    refine xr_cvV (As := [xi v12]) dX12_putIn_237 mi_X12_sayRow ml_X12_294 se_X12_sayRow L_74 rfl rfl rfl (Nat.le_of_ble_eq_true rfl) h (fun m13 h => ?_)
    refine xr_aload_n dX12_putIn_240 rfl ?_
    refine xr_bipush dX12_putIn_241 (by decide) ?_
    refine xr_cvV (As := [xi 41]) dX12_putIn_243 mi_X12_say ml_X12_250 se_X12_say L_74 rfl rfl rfl (Nat.le_of_ble_eq_true rfl) h (fun m15 h => ?_)
    refine xr_aload_n dX12_putIn_246 rfl ?_
    refine xr_bipush dX12_putIn_247 (by decide) ?_
    refine xr_iload dX12_putIn_249 rfl ?_
    refine xr_iadd dX12_putIn_251 ?_
    refine xr_cvV (As := [xi (48 + v10)]) dX12_putIn_252 mi_X12_say ml_X12_250 se_X12_say L_74 rfl rfl rfl (Nat.le_of_ble_eq_true rfl) h (fun m17 h => ?_)
    refine xr_aload_n dX12_putIn_255 rfl ?_
    refine xr_iload dX12_putIn_256 rfl ?_
    obtain ⟨q18, hT19, hF20⟩ := h
    refine xr_if_ne (tgt := 266) dX12_putIn_258 (by decide) q18  (fun c => ?_) (fun c => ?_)
    · have h := hT19 c
      refine xr_bipush dX12_putIn_266 (by decide) ?_
      exact h
    · have h := hF20 c
      refine xr_bipush dX12_putIn_261 (by decide) ?_
      refine xr_goto (tgt := 268) dX12_putIn_263 (by decide) ?_
      exact h
  · have h := hF3 c
    refine xr_goto (tgt := 315) dX12_putIn_208 (by decide) ?_
    refine xr_iinc' (ll' := [some (xr G 74), some (xi v1), some (xi v2), some (xi v3), some (xi v4), some (xi v5), some (xi v6), some (xi v7), some (xi v8), some (xi v9), some (xi v10), none, some (xi v12), some (xi (v13 + 1)), some (xi s0)]) dX12_putIn_315 rfl (by decide) rfl rfl ?_
    refine xr_goto (tgt := 155) dX12_putIn_318 (by decide) ?_
    refine xr_wk (ll' := [some (xr G 74), some (xi v1), some (xi v2), some (xi v3), some (xi v4), some (xi v5), some (xi v6), some (xi v7), some (xi v8), some (xi v9), some (xi v10), none, some (xi v12), some (xi (v13 + 1)), none]) ⟨rfl, ⟨rfl, ⟨rfl, ⟨rfl, ⟨rfl, ⟨rfl, ⟨rfl, ⟨rfl, ⟨rfl, ⟨rfl, ⟨rfl, ⟨rfl, ⟨rfl, trivial⟩⟩⟩⟩⟩⟩⟩⟩⟩⟩⟩⟩⟩ ?_
    exact h
set_option maxRecDepth 20000 in
theorem B_X12_putIn_268 {G : xG} {l : Launch} {d : Nat} {P : xMem → Prop} {v1 v2 v3 v4 v5 v6 v7 v8 v9 v10 v12 v13 v14 s1 : Int} {μ : xMem} (h : CV G l d mX12_say [xr G 74, xi s1] μ (fun m2 => CV G l d mX12_say [xr G 74, xi (65 + v3)] m2 (fun m4 => ((0 ≤ v12 ∧ v12 < 3960) ∧ CI G l d mX12_times [xi (m4 95 v12), xi v14] m4 (fun r6 m7 => (iR v13 ∧ (v13 ≠ 0 → CV G l d mX12_offer [xr G 74, xi r6, xi ((1 + (m7 96 v12)) + 1)] m7 (fun m12 => K_X12_putIn_155 G l (d + 1) P v1 v2 v3 v4 v5 v6 v7 v8 v9 v10 v12 (v13 + 1) m12)) ∧ (v13 = 0 → CV G l d mX12_offer [xr G 74, xi r6, xi ((1 + (m7 96 v12)) + 2)] m7 (fun m14 => K_X12_putIn_155 G l (d + 1) P v1 v2 v3 v4 v5 v6 v7 v8 v9 v10 v12 (v13 + 1) m14)))))))) : K_X12_putIn_268 G l (d + 1) P v1 v2 v3 v4 v5 v6 v7 v8 v9 v10 v12 v13 v14 s1 μ := by
  unfold K_X12_putIn_268
  refine xr_cvV (As := [xi s1]) dX12_putIn_268 mi_X12_say ml_X12_250 se_X12_say L_74 rfl rfl rfl (Nat.le_of_ble_eq_true rfl) h (fun m2 h => ?_)
  refine xr_aload_n dX12_putIn_271 rfl ?_
  refine xr_bipush dX12_putIn_272 (by decide) ?_
  refine xr_iload_n dX12_putIn_274 rfl ?_
  refine xr_iadd dX12_putIn_275 ?_
  refine xr_cvV (As := [xi (65 + v3)]) dX12_putIn_276 mi_X12_say ml_X12_250 se_X12_say L_74 rfl rfl rfl (Nat.le_of_ble_eq_true rfl) h (fun m4 h => ?_)
  refine xr_aload_n dX12_putIn_279 rfl ?_
  refine xr_aload_n dX12_putIn_280 rfl ?_
  refine xr_getR dX12_putIn_281 fl_X12_79 L_74 rfl ?_
  refine xr_iload dX12_putIn_284 rfl ?_
  obtain ⟨q5, h⟩ := h
  refine xr_iaload' (v := m4 95 v12) dX12_putIn_286 L_95 rfl (by decide) q5 rfl ?_
  refine xr_iload dX12_putIn_287 rfl ?_
  refine xr_csI (As := [xi (m4 95 v12), xi v14]) dX12_putIn_289 ms_X12_times ml_X12_308 rfl rfl (Nat.le_of_ble_eq_true rfl) h (fun r6 m7 hr6 h => ?_)
  refine xr_iconst dX12_putIn_292 ?_
  refine xr_aload_n dX12_putIn_293 rfl ?_
  refine xr_getR dX12_putIn_294 fl_X12_82 L_74 rfl ?_
  refine xr_iload dX12_putIn_297 rfl ?_
  refine xr_iaload' (v := m7 96 v12) dX12_putIn_299 L_96 rfl (by decide) q5 rfl ?_
  refine xr_iadd dX12_putIn_300 ?_
  refine xr_iload dX12_putIn_301 rfl ?_
  obtain ⟨q8, hT9, hF10⟩ := h
  refine xr_if_ne (tgt := 310) dX12_putIn_303 (by decide) q8  (fun c => ?_) (fun c => ?_)
  · have h := hT9 c
    refine xr_iconst dX12_putIn_310 ?_
    refine xr_iadd dX12_putIn_311 ?_
    refine xr_cvV (As := [xi r6, xi ((1 + (m7 96 v12)) + 1)]) dX12_putIn_312 mi_X12_offer ml_X12_280 se_X12_offer L_74 rfl rfl rfl (Nat.le_of_ble_eq_true rfl) h (fun m12 h => ?_)
    refine xr_iinc' (ll' := [some (xr G 74), some (xi v1), some (xi v2), some (xi v3), some (xi v4), some (xi v5), some (xi v6), some (xi v7), some (xi v8), some (xi v9), some (xi v10), none, some (xi v12), some (xi (v13 + 1)), some (xi v14)]) dX12_putIn_315 rfl (by decide) rfl rfl ?_
    refine xr_goto (tgt := 155) dX12_putIn_318 (by decide) ?_
    refine xr_wk (ll' := [some (xr G 74), some (xi v1), some (xi v2), some (xi v3), some (xi v4), some (xi v5), some (xi v6), some (xi v7), some (xi v8), some (xi v9), some (xi v10), none, some (xi v12), some (xi (v13 + 1)), none]) ⟨rfl, ⟨rfl, ⟨rfl, ⟨rfl, ⟨rfl, ⟨rfl, ⟨rfl, ⟨rfl, ⟨rfl, ⟨rfl, ⟨rfl, ⟨rfl, ⟨rfl, trivial⟩⟩⟩⟩⟩⟩⟩⟩⟩⟩⟩⟩⟩ ?_
    exact h
  · have h := hF10 c
    refine xr_iconst dX12_putIn_306 ?_
    refine xr_goto (tgt := 311) dX12_putIn_307 (by decide) ?_
    refine xr_iadd dX12_putIn_311 ?_
    refine xr_cvV (As := [xi r6, xi ((1 + (m7 96 v12)) + 2)]) dX12_putIn_312 mi_X12_offer ml_X12_280 se_X12_offer L_74 rfl rfl rfl (Nat.le_of_ble_eq_true rfl) h (fun m14 h => ?_)
    refine xr_iinc' (ll' := [some (xr G 74), some (xi v1), some (xi v2), some (xi v3), some (xi v4), some (xi v5), some (xi v6), some (xi v7), some (xi v8), some (xi v9), some (xi v10), none, some (xi v12), some (xi (v13 + 1)), some (xi v14)]) dX12_putIn_315 rfl (by decide) rfl rfl ?_
    refine xr_goto (tgt := 155) dX12_putIn_318 (by decide) ?_
    refine xr_wk (ll' := [some (xr G 74), some (xi v1), some (xi v2), some (xi v3), some (xi v4), some (xi v5), some (xi v6), some (xi v7), some (xi v8), some (xi v9), some (xi v10), none, some (xi v12), some (xi (v13 + 1)), none]) ⟨rfl, ⟨rfl, ⟨rfl, ⟨rfl, ⟨rfl, ⟨rfl, ⟨rfl, ⟨rfl, ⟨rfl, ⟨rfl, ⟨rfl, ⟨rfl, ⟨rfl, trivial⟩⟩⟩⟩⟩⟩⟩⟩⟩⟩⟩⟩⟩ ?_
    exact h
end Blk34_bX12b
