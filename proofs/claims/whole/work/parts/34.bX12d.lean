/-! blocks of the class's code, printed by program -/
section Blk34_bX12d
theorem dX12_isLight_0 : decode cX12_isLight 0 = .ok (.iload_n 1, 1) := by decide +kernel
theorem dX12_isLight_1 : decode cX12_isLight 1 = .ok (.iconst 0, 1) := by decide +kernel
theorem dX12_isLight_2 : decode cX12_isLight 2 = .ok (.bipush 15, 2) := by decide +kernel
theorem dX12_isLight_4 : decode cX12_isLight 4 = .ok (.invokestatic 198, 3) := by decide +kernel
theorem dX12_isLight_7 : decode cX12_isLight 7 = .ok (.ifCond .eq 16, 3) := by decide +kernel
theorem dX12_isLight_10 : decode cX12_isLight 10 = .ok (.aload_n 0, 1) := by decide +kernel
theorem dX12_isLight_11 : decode cX12_isLight 11 = .ok (.getfield 146, 3) := by decide +kernel
theorem dX12_isLight_14 : decode cX12_isLight 14 = .ok (.iload_n 1, 1) := by decide +kernel
theorem dX12_isLight_15 : decode cX12_isLight 15 = .ok (.baload, 1) := by decide +kernel
theorem dX12_isLight_16 : decode cX12_isLight 16 = .ok (.ifCond .eq 7, 3) := by decide +kernel
theorem dX12_isLight_19 : decode cX12_isLight 19 = .ok (.iconst 1, 1) := by decide +kernel
theorem dX12_isLight_20 : decode cX12_isLight 20 = .ok (.goto 4, 3) := by decide +kernel
theorem dX12_isLight_23 : decode cX12_isLight 23 = .ok (.iconst 0, 1) := by decide +kernel
theorem dX12_isLight_24 : decode cX12_isLight 24 = .ok (.ireturn, 1) := by decide +kernel
set_option maxRecDepth 20000 in
theorem E_X12_isLight {G : xG} {l : Launch} {d : Nat} {P : Int → xMem → Prop} {v1 : Int} {μ : xMem} (h : CI G l d mX12_isIn [xi v1, xi 0, xi 15] μ (fun r1 m2 => ((r1 = 0 → P 0 m2) ∧ (r1 ≠ 0 → ((0 ≤ v1 ∧ v1 < 16) ∧ (iR (m2 117 v1) ∧ ((m2 117 v1) = 0 → P 0 m2) ∧ ((m2 117 v1) ≠ 0 → P 1 m2))))))) : CI G l (d + 1) mX12_isLight [xr G 74, xi v1] μ P := by
  refine CC.ofRR (ll := [some (xr G 74), some (xi v1)]) (by decide +kernel) (Nat.le_of_ble_eq_true rfl) rfl (fun h => by cases h) ?_
  refine xr_iload_n dX12_isLight_0 rfl ?_
  refine xr_iconst dX12_isLight_1 ?_
  refine xr_bipush dX12_isLight_2 (by decide) ?_
  refine xr_csI (As := [xi v1, xi 0, xi 15]) dX12_isLight_4 ms_X12_isIn ml_X12_198 rfl rfl (Nat.le_of_ble_eq_true rfl) h (fun r1 m2 hr1 h => ?_)
  obtain ⟨hT3, hF4⟩ := h
  refine xr_if_eq (tgt := 23) dX12_isLight_7 (by decide) hr1  (fun c => ?_) (fun c => ?_)
  · have h := hT3 c
    refine xr_iconst dX12_isLight_23 ?_
    exact xr_zret dX12_isLight_24 rfl (x_nz (by decide)).1 ⟨rfl, _, rfl, x_01 (by decide), h⟩
  · have h := hF4 c
    refine xr_aload_n dX12_isLight_10 rfl ?_
    refine xr_getR dX12_isLight_11 fl_X12_146 L_74 rfl ?_
    refine xr_iload_n dX12_isLight_14 rfl ?_
    obtain ⟨q5, h⟩ := h
    refine xr_zaload' (v := m2 117 v1) dX12_isLight_15 L_117 rfl (by decide) q5 rfl ?_
    obtain ⟨q6, hT7, hF8⟩ := h
    refine xr_if_eq (tgt := 23) dX12_isLight_16 (by decide) q6  (fun c => ?_) (fun c => ?_)
    · have h := hT7 c
      refine xr_iconst dX12_isLight_23 ?_
      exact xr_zret dX12_isLight_24 rfl (x_nz (by decide)).1 ⟨rfl, _, rfl, x_01 (by decide), h⟩
    · have h := hF8 c
      refine xr_iconst dX12_isLight_19 ?_
      refine xr_goto (tgt := 24) dX12_isLight_20 (by decide) ?_
      exact xr_zret dX12_isLight_24 rfl (x_nz (by decide)).1 ⟨rfl, _, rfl, x_01 (by decide), h⟩
theorem dX12_other_0 : decode cX12_other 0 = .ok (.aload_n 0, 1) := by decide +kernel
theorem dX12_other_1 : decode cX12_other 1 = .ok (.getfield 149, 3) := by decide +kernel
theorem dX12_other_4 : decode cX12_other 4 = .ok (.iload_n 1, 1) := by decide +kernel
theorem dX12_other_5 : decode cX12_other 5 = .ok (.baload, 1) := by decide +kernel
theorem dX12_other_6 : decode cX12_other 6 = .ok (.ifCond .eq 12, 3) := by decide +kernel
theorem dX12_other_9 : decode cX12_other 9 = .ok (.aload_n 0, 1) := by decide +kernel
theorem dX12_other_10 : decode cX12_other 10 = .ok (.getfield 128, 3) := by decide +kernel
theorem dX12_other_13 : decode cX12_other 13 = .ok (.iload_n 2, 1) := by decide +kernel
theorem dX12_other_14 : decode cX12_other 14 = .ok (.iaload, 1) := by decide +kernel
theorem dX12_other_15 : decode cX12_other 15 = .ok (.goto 9, 3) := by decide +kernel
theorem dX12_other_18 : decode cX12_other 18 = .ok (.aload_n 0, 1) := by decide +kernel
theorem dX12_other_19 : decode cX12_other 19 = .ok (.getfield 131, 3) := by decide +kernel
theorem dX12_other_22 : decode cX12_other 22 = .ok (.iload_n 2, 1) := by decide +kernel
theorem dX12_other_23 : decode cX12_other 23 = .ok (.iaload, 1) := by decide +kernel
theorem dX12_other_24 : decode cX12_other 24 = .ok (.iconst 1, 1) := by decide +kernel
theorem dX12_other_25 : decode cX12_other 25 = .ok (.isub, 1) := by decide +kernel
theorem dX12_other_26 : decode cX12_other 26 = .ok (.ireturn, 1) := by decide +kernel
set_option maxRecDepth 20000 in
theorem E_X12_other {G : xG} {l : Launch} {d : Nat} {P : Int → xMem → Prop} {v1 v2 : Int} {μ : xMem} (h : ((0 ≤ v1 ∧ v1 < 16) ∧ (iR (μ 118 v1) ∧ ((μ 118 v1) = 0 → ((0 ≤ v2 ∧ v2 < 81) ∧ (iR ((μ 112 v2) - 1) ∧ P ((μ 112 v2) - 1) μ))) ∧ ((μ 118 v1) ≠ 0 → ((0 ≤ v2 ∧ v2 < 81) ∧ (iR ((μ 111 v2) - 1) ∧ P ((μ 111 v2) - 1) μ)))))) : CI G l (d + 1) mX12_other [xr G 74, xi v1, xi v2] μ P := by
  refine CC.ofRR (ll := [some (xr G 74), some (xi v1), some (xi v2)]) (by decide +kernel) (Nat.le_of_ble_eq_true rfl) rfl (fun h => by cases h) ?_
  refine xr_aload_n dX12_other_0 rfl ?_
  refine xr_getR dX12_other_1 fl_X12_149 L_74 rfl ?_
  refine xr_iload_n dX12_other_4 rfl ?_
  obtain ⟨q1, h⟩ := h
  refine xr_zaload' (v := μ 118 v1) dX12_other_5 L_118 rfl (by decide) q1 rfl ?_
  obtain ⟨q2, hT3, hF4⟩ := h
  refine xr_if_eq (tgt := 18) dX12_other_6 (by decide) q2  (fun c => ?_) (fun c => ?_)
  · have h := hT3 c
    refine xr_aload_n dX12_other_18 rfl ?_
    refine xr_getR dX12_other_19 fl_X12_131 L_74 rfl ?_
    refine xr_iload_n dX12_other_22 rfl ?_
    obtain ⟨q5, h⟩ := h
    refine xr_iaload' (v := μ 112 v2) dX12_other_23 L_112 rfl (by decide) q5 rfl ?_
    refine xr_iconst dX12_other_24 ?_
    refine xr_isub dX12_other_25 ?_
    obtain ⟨q6, h⟩ := h
    exact xr_iret dX12_other_26 rfl ⟨rfl, _, rfl, q6, h⟩
  · have h := hF4 c
    refine xr_aload_n dX12_other_9 rfl ?_
    refine xr_getR dX12_other_10 fl_X12_128 L_74 rfl ?_
    refine xr_iload_n dX12_other_13 rfl ?_
    obtain ⟨q7, h⟩ := h
    refine xr_iaload' (v := μ 111 v2) dX12_other_14 L_111 rfl (by decide) q7 rfl ?_
    refine xr_goto (tgt := 24) dX12_other_15 (by decide) ?_
    refine xr_iconst dX12_other_24 ?_
    refine xr_isub dX12_other_25 ?_
    obtain ⟨q8, h⟩ := h
    exact xr_iret dX12_other_26 rfl ⟨rfl, _, rfl, q8, h⟩
theorem dX12_placeIn_0 : decode cX12_placeIn 0 = .ok (.aload_n 0, 1) := by decide +kernel
theorem dX12_placeIn_1 : decode cX12_placeIn 1 = .ok (.getfield 149, 3) := by decide +kernel
theorem dX12_placeIn_4 : decode cX12_placeIn 4 = .ok (.iload_n 1, 1) := by decide +kernel
theorem dX12_placeIn_5 : decode cX12_placeIn 5 = .ok (.baload, 1) := by decide +kernel
theorem dX12_placeIn_6 : decode cX12_placeIn 6 = .ok (.ifCond .eq 17, 3) := by decide +kernel
theorem dX12_placeIn_9 : decode cX12_placeIn 9 = .ok (.iload_n 2, 1) := by decide +kernel
theorem dX12_placeIn_10 : decode cX12_placeIn 10 = .ok (.bipush 9, 2) := by decide +kernel
theorem dX12_placeIn_12 : decode cX12_placeIn 12 = .ok (.idiv, 1) := by decide +kernel
theorem dX12_placeIn_13 : decode cX12_placeIn 13 = .ok (.aload_n 0, 1) := by decide +kernel
theorem dX12_placeIn_14 : decode cX12_placeIn 14 = .ok (.getfield 122, 3) := by decide +kernel
theorem dX12_placeIn_17 : decode cX12_placeIn 17 = .ok (.iload_n 1, 1) := by decide +kernel
theorem dX12_placeIn_18 : decode cX12_placeIn 18 = .ok (.iaload, 1) := by decide +kernel
theorem dX12_placeIn_19 : decode cX12_placeIn 19 = .ok (.isub, 1) := by decide +kernel
theorem dX12_placeIn_20 : decode cX12_placeIn 20 = .ok (.goto 14, 3) := by decide +kernel
theorem dX12_placeIn_23 : decode cX12_placeIn 23 = .ok (.iload_n 2, 1) := by decide +kernel
theorem dX12_placeIn_24 : decode cX12_placeIn 24 = .ok (.bipush 9, 2) := by decide +kernel
theorem dX12_placeIn_26 : decode cX12_placeIn 26 = .ok (.irem, 1) := by decide +kernel
theorem dX12_placeIn_27 : decode cX12_placeIn 27 = .ok (.aload_n 0, 1) := by decide +kernel
theorem dX12_placeIn_28 : decode cX12_placeIn 28 = .ok (.getfield 125, 3) := by decide +kernel
theorem dX12_placeIn_31 : decode cX12_placeIn 31 = .ok (.iload_n 1, 1) := by decide +kernel
theorem dX12_placeIn_32 : decode cX12_placeIn 32 = .ok (.iaload, 1) := by decide +kernel
theorem dX12_placeIn_33 : decode cX12_placeIn 33 = .ok (.isub, 1) := by decide +kernel
theorem dX12_placeIn_34 : decode cX12_placeIn 34 = .ok (.ireturn, 1) := by decide +kernel
set_option maxRecDepth 20000 in
theorem E_X12_placeIn {G : xG} {l : Launch} {d : Nat} {P : Int → xMem → Prop} {v1 v2 : Int} {μ : xMem} (h : ((0 ≤ v1 ∧ v1 < 16) ∧ (iR (μ 118 v1) ∧ ((μ 118 v1) = 0 → ((0 ≤ v2 ∧ v2 < 2147483648) ∧ (iR ((v2 % 9) - (μ 110 v1)) ∧ P ((v2 % 9) - (μ 110 v1)) μ))) ∧ ((μ 118 v1) ≠ 0 → ((0 ≤ v2 ∧ v2 < 2147483648) ∧ (iR ((v2 / 9) - (μ 109 v1)) ∧ P ((v2 / 9) - (μ 109 v1)) μ)))))) : CI G l (d + 1) mX12_placeIn [xr G 74, xi v1, xi v2] μ P := by
  refine CC.ofRR (ll := [some (xr G 74), some (xi v1), some (xi v2)]) (by decide +kernel) (Nat.le_of_ble_eq_true rfl) rfl (fun h => by cases h) ?_
  refine xr_aload_n dX12_placeIn_0 rfl ?_
  refine xr_getR dX12_placeIn_1 fl_X12_149 L_74 rfl ?_
  refine xr_iload_n dX12_placeIn_4 rfl ?_
  obtain ⟨q1, h⟩ := h
  refine xr_zaload' (v := μ 118 v1) dX12_placeIn_5 L_118 rfl (by decide) q1 rfl ?_
  obtain ⟨q2, hT3, hF4⟩ := h
  refine xr_if_eq (tgt := 23) dX12_placeIn_6 (by decide) q2  (fun c => ?_) (fun c => ?_)
  · have h := hT3 c
    refine xr_iload_n dX12_placeIn_23 rfl ?_
    refine xr_bipush dX12_placeIn_24 (by decide) ?_
    obtain ⟨q5, h⟩ := h
    refine xr_irem dX12_placeIn_26 q5 (by decide) ?_
    refine xr_aload_n dX12_placeIn_27 rfl ?_
    refine xr_getR dX12_placeIn_28 fl_X12_125 L_74 rfl ?_
    refine xr_iload_n dX12_placeIn_31 rfl ?_
    refine xr_iaload' (v := μ 110 v1) dX12_placeIn_32 L_110 rfl (by decide) q1 rfl ?_
    refine xr_isub dX12_placeIn_33 ?_
    obtain ⟨q6, h⟩ := h
    exact xr_iret dX12_placeIn_34 rfl ⟨rfl, _, rfl, q6, h⟩
  · have h := hF4 c
    refine xr_iload_n dX12_placeIn_9 rfl ?_
    refine xr_bipush dX12_placeIn_10 (by decide) ?_
    obtain ⟨q7, h⟩ := h
    refine xr_idiv dX12_placeIn_12 q7 (by decide) ?_
    refine xr_aload_n dX12_placeIn_13 rfl ?_
    refine xr_getR dX12_placeIn_14 fl_X12_122 L_74 rfl ?_
    refine xr_iload_n dX12_placeIn_17 rfl ?_
    refine xr_iaload' (v := μ 109 v1) dX12_placeIn_18 L_109 rfl (by decide) q1 rfl ?_
    refine xr_isub dX12_placeIn_19 ?_
    refine xr_goto (tgt := 34) dX12_placeIn_20 (by decide) ?_
    obtain ⟨q8, h⟩ := h
    exact xr_iret dX12_placeIn_34 rfl ⟨rfl, _, rfl, q8, h⟩
theorem dX12_letterOf_0 : decode cX12_letterOf 0 = .ok (.aload_n 0, 1) := by decide +kernel
theorem dX12_letterOf_1 : decode cX12_letterOf 1 = .ok (.getfield 13, 3) := by decide +kernel
theorem dX12_letterOf_4 : decode cX12_letterOf 4 = .ok (.bipush 10, 2) := by decide +kernel
theorem dX12_letterOf_6 : decode cX12_letterOf 6 = .ok (.iload_n 1, 1) := by decide +kernel
theorem dX12_letterOf_7 : decode cX12_letterOf 7 = .ok (.imul, 1) := by decide +kernel
theorem dX12_letterOf_8 : decode cX12_letterOf 8 = .ok (.iload_n 2, 1) := by decide +kernel
theorem dX12_letterOf_9 : decode cX12_letterOf 9 = .ok (.iadd, 1) := by decide +kernel
theorem dX12_letterOf_10 : decode cX12_letterOf 10 = .ok (.baload, 1) := by decide +kernel
theorem dX12_letterOf_11 : decode cX12_letterOf 11 = .ok (.ireturn, 1) := by decide +kernel
set_option maxRecDepth 20000 in
theorem E_X12_letterOf {G : xG} {l : Launch} {d : Nat} {P : Int → xMem → Prop} {v1 v2 : Int} {μ : xMem} (h : ((0 ≤ (10 * v1) + v2 ∧ (10 * v1) + v2 < 1200) ∧ (iR (μ 76 ((10 * v1) + v2)) ∧ P (μ 76 ((10 * v1) + v2)) μ))) : CI G l (d + 1) mX12_letterOf [xr G 74, xi v1, xi v2] μ P := by
  refine CC.ofRR (ll := [some (xr G 74), some (xi v1), some (xi v2)]) (by decide +kernel) (Nat.le_of_ble_eq_true rfl) rfl (fun h => by cases h) ?_
  refine xr_aload_n dX12_letterOf_0 rfl ?_
  refine xr_getR dX12_letterOf_1 fl_X12_13 L_74 rfl ?_
  refine xr_bipush dX12_letterOf_4 (by decide) ?_
  refine xr_iload_n dX12_letterOf_6 rfl ?_
  refine xr_imul dX12_letterOf_7 ?_
  refine xr_iload_n dX12_letterOf_8 rfl ?_
  refine xr_iadd dX12_letterOf_9 ?_
  obtain ⟨q1, h⟩ := h
  refine xr_baload' (v := μ 76 ((10 * v1) + v2)) dX12_letterOf_10 L_76 rfl (by decide) q1 rfl ?_
  obtain ⟨q2, h⟩ := h
  exact xr_iret dX12_letterOf_11 rfl ⟨rfl, _, rfl, q2, h⟩
theorem dX12_solution_0 : decode cX12_solution 0 = .ok (.aload_n 0, 1) := by decide +kernel
theorem dX12_solution_1 : decode cX12_solution 1 = .ok (.iconst 0, 1) := by decide +kernel
theorem dX12_solution_2 : decode cX12_solution 2 = .ok (.putfield 185, 3) := by decide +kernel
theorem dX12_solution_5 : decode cX12_solution 5 = .ok (.aload_n 0, 1) := by decide +kernel
theorem dX12_solution_6 : decode cX12_solution 6 = .ok (.iload_n 1, 1) := by decide +kernel
theorem dX12_solution_7 : decode cX12_solution 7 = .ok (.invokevirtual 394, 3) := by decide +kernel
theorem dX12_solution_10 : decode cX12_solution 10 = .ok (.ifCond .eq 35, 3) := by decide +kernel
theorem dX12_solution_13 : decode cX12_solution 13 = .ok (.aload_n 0, 1) := by decide +kernel
theorem dX12_solution_14 : decode cX12_solution 14 = .ok (.iload_n 2, 1) := by decide +kernel
theorem dX12_solution_15 : decode cX12_solution 15 = .ok (.invokevirtual 221, 3) := by decide +kernel
theorem dX12_solution_18 : decode cX12_solution 18 = .ok (.ifCond .eq 27, 3) := by decide +kernel
theorem dX12_solution_21 : decode cX12_solution 21 = .ok (.aload_n 0, 1) := by decide +kernel
theorem dX12_solution_22 : decode cX12_solution 22 = .ok (.getfield 16, 3) := by decide +kernel
theorem dX12_solution_25 : decode cX12_solution 25 = .ok (.iload_n 2, 1) := by decide +kernel
theorem dX12_solution_26 : decode cX12_solution 26 = .ok (.iaload, 1) := by decide +kernel
theorem dX12_solution_27 : decode cX12_solution 27 = .ok (.aload_n 0, 1) := by decide +kernel
theorem dX12_solution_28 : decode cX12_solution 28 = .ok (.getfield 53, 3) := by decide +kernel
theorem dX12_solution_31 : decode cX12_solution 31 = .ok (.iload_n 1, 1) := by decide +kernel
theorem dX12_solution_32 : decode cX12_solution 32 = .ok (.iaload, 1) := by decide +kernel
theorem dX12_solution_33 : decode cX12_solution 33 = .ok (.if_icmp .ne 12, 3) := by decide +kernel
theorem dX12_solution_36 : decode cX12_solution 36 = .ok (.aload_n 0, 1) := by decide +kernel
theorem dX12_solution_37 : decode cX12_solution 37 = .ok (.getfield 397, 3) := by decide +kernel
theorem dX12_solution_40 : decode cX12_solution 40 = .ok (.bipush 60, 2) := by decide +kernel
theorem dX12_solution_42 : decode cX12_solution 42 = .ok (.if_icmp .ne 5, 3) := by decide +kernel
theorem dX12_solution_45 : decode cX12_solution 45 = .ok (.iconst 0, 1) := by decide +kernel
theorem dX12_solution_46 : decode cX12_solution 46 = .ok (.ireturn, 1) := by decide +kernel
theorem dX12_solution_47 : decode cX12_solution 47 = .ok (.aload_n 0, 1) := by decide +kernel
theorem dX12_solution_48 : decode cX12_solution 48 = .ok (.getfield 137, 3) := by decide +kernel
theorem dX12_solution_51 : decode cX12_solution 51 = .ok (.aload_n 0, 1) := by decide +kernel
theorem dX12_solution_52 : decode cX12_solution 52 = .ok (.getfield 397, 3) := by decide +kernel
theorem dX12_solution_55 : decode cX12_solution 55 = .ok (.iload_n 1, 1) := by decide +kernel
theorem dX12_solution_56 : decode cX12_solution 56 = .ok (.iastore, 1) := by decide +kernel
theorem dX12_solution_57 : decode cX12_solution 57 = .ok (.aload_n 0, 1) := by decide +kernel
theorem dX12_solution_58 : decode cX12_solution 58 = .ok (.getfield 140, 3) := by decide +kernel
theorem dX12_solution_61 : decode cX12_solution 61 = .ok (.aload_n 0, 1) := by decide +kernel
theorem dX12_solution_62 : decode cX12_solution 62 = .ok (.getfield 397, 3) := by decide +kernel
theorem dX12_solution_65 : decode cX12_solution 65 = .ok (.iload_n 2, 1) := by decide +kernel
theorem dX12_solution_66 : decode cX12_solution 66 = .ok (.iastore, 1) := by decide +kernel
theorem dX12_solution_67 : decode cX12_solution 67 = .ok (.aload_n 0, 1) := by decide +kernel
theorem dX12_solution_68 : decode cX12_solution 68 = .ok (.getfield 143, 3) := by decide +kernel
theorem dX12_solution_71 : decode cX12_solution 71 = .ok (.aload_n 0, 1) := by decide +kernel
theorem dX12_solution_72 : decode cX12_solution 72 = .ok (.getfield 397, 3) := by decide +kernel
theorem dX12_solution_75 : decode cX12_solution 75 = .ok (.aload_n 0, 1) := by decide +kernel
theorem dX12_solution_76 : decode cX12_solution 76 = .ok (.getfield 202, 3) := by decide +kernel
theorem dX12_solution_79 : decode cX12_solution 79 = .ok (.iastore, 1) := by decide +kernel
theorem dX12_solution_80 : decode cX12_solution 80 = .ok (.aload_n 0, 1) := by decide +kernel
theorem dX12_solution_81 : decode cX12_solution 81 = .ok (.dup, 1) := by decide +kernel
theorem dX12_solution_82 : decode cX12_solution 82 = .ok (.getfield 397, 3) := by decide +kernel
theorem dX12_solution_85 : decode cX12_solution 85 = .ok (.iconst 1, 1) := by decide +kernel
theorem dX12_solution_86 : decode cX12_solution 86 = .ok (.iadd, 1) := by decide +kernel
theorem dX12_solution_87 : decode cX12_solution 87 = .ok (.putfield 397, 3) := by decide +kernel
theorem dX12_solution_90 : decode cX12_solution 90 = .ok (.iconst 1, 1) := by decide +kernel
theorem dX12_solution_91 : decode cX12_solution 91 = .ok (.ireturn, 1) := by decide +kernel
set_option maxRecDepth 20000 in
theorem E_X12_solution {G : xG} {l : Launch} {d : Nat} {P : Int → xMem → Prop} {v1 v2 : Int} {μ : xMem} (h : CI G l d mX12_isLight [xr G 74, xi v1] (st2 μ 74 0 0) (fun r1 m2 => ((r1 = 0 → P 0 m2) ∧ (r1 ≠ 0 → CI G l d mX12_isWord [xr G 74, xi v2] m2 (fun r5 m6 => ((r5 = 0 → P 0 m6) ∧ (r5 ≠ 0 → ((0 ≤ v2 ∧ v2 < 120) ∧ ((0 ≤ v1 ∧ v1 < 16) ∧ (iR (m6 77 v2) ∧ iR (m6 89 v1) ∧ ((m6 77 v2) ≠ (m6 89 v1) → P 0 m6) ∧ ((m6 77 v2) = (m6 89 v1) → (iR (m6 74 67) ∧ ((m6 74 67) ≠ 60 → ((0 ≤ m6 74 67 ∧ m6 74 67 < 60) ∧ P 1 (st2 (st2 (st2 (st2 m6 114 (m6 74 67) v1) 115 (m6 74 67) v2) 116 (m6 74 67) (m6 74 4)) 74 67 ((m6 74 67) + 1)))) ∧ ((m6 74 67) = 60 → P 0 m6))))))))))))) : CI G l (d + 1) mX12_solution [xr G 74, xi v1, xi v2] μ P := by
  refine CC.ofRR (ll := [some (xr G 74), some (xi v1), some (xi v2)]) (by decide +kernel) (Nat.le_of_ble_eq_true rfl) rfl (fun h => by cases h) ?_
  refine xr_aload_n dX12_solution_0 rfl ?_
  refine xr_iconst dX12_solution_1 ?_
  refine xr_putI dX12_solution_2 fp_X12_185 L_74 rfl rfl ⟨rfl, rfl⟩ ?_
  refine xr_aload_n dX12_solution_5 rfl ?_
  refine xr_iload_n dX12_solution_6 rfl ?_
  refine xr_cvI (As := [xi v1]) dX12_solution_7 mi_X12_isLight ml_X12_394 se_X12_isLight L_74 rfl rfl rfl (Nat.le_of_ble_eq_true rfl) h (fun r1 m2 hr1 h => ?_)
  obtain ⟨hT3, hF4⟩ := h
  refine xr_if_eq (tgt := 45) dX12_solution_10 (by decide) hr1  (fun c => ?_) (fun c => ?_)
  · have h := hT3 c
    refine xr_iconst dX12_solution_45 ?_
    exact xr_zret dX12_solution_46 rfl (x_nz (by decide)).1 ⟨rfl, _, rfl, x_01 (by decide), h⟩
  · have h := hF4 c
    refine xr_aload_n dX12_solution_13 rfl ?_
    refine xr_iload_n dX12_solution_14 rfl ?_
    refine xr_cvI (As := [xi v2]) dX12_solution_15 mi_X12_isWord ml_X12_221 se_X12_isWord L_74 rfl rfl rfl (Nat.le_of_ble_eq_true rfl) h (fun r5 m6 hr5 h => ?_)
    obtain ⟨hT7, hF8⟩ := h
    refine xr_if_eq (tgt := 45) dX12_solution_18 (by decide) hr5  (fun c => ?_) (fun c => ?_)
    · have h := hT7 c
      refine xr_iconst dX12_solution_45 ?_
      exact xr_zret dX12_solution_46 rfl (x_nz (by decide)).1 ⟨rfl, _, rfl, x_01 (by decide), h⟩
    · have h := hF8 c
      refine xr_aload_n dX12_solution_21 rfl ?_
      refine xr_getR dX12_solution_22 fl_X12_16 L_74 rfl ?_
      refine xr_iload_n dX12_solution_25 rfl ?_
      obtain ⟨q9, h⟩ := h
      refine xr_iaload' (v := m6 77 v2) dX12_solution_26 L_77 rfl (by decide) q9 rfl ?_
      refine xr_aload_n dX12_solution_27 rfl ?_
      refine xr_getR dX12_solution_28 fl_X12_53 L_74 rfl ?_
      refine xr_iload_n dX12_solution_31 rfl ?_
      obtain ⟨q10, h⟩ := h
      refine xr_iaload' (v := m6 89 v1) dX12_solution_32 L_89 rfl (by decide) q10 rfl ?_
      obtain ⟨q11, q12, hT13, hF14⟩ := h
      refine xr_icmp_ne (tgt := 45) dX12_solution_33 (by decide) q11 q12 (fun c => ?_) (fun c => ?_)
      · have h := hT13 c
        refine xr_iconst dX12_solution_45 ?_
        exact xr_zret dX12_solution_46 rfl (x_nz (by decide)).1 ⟨rfl, _, rfl, x_01 (by decide), h⟩
      · have h := hF14 c
        refine xr_aload_n dX12_solution_36 rfl ?_
        refine xr_getI' (v := m6 74 67) dX12_solution_37 fl_X12_397 L_74 rfl rfl rfl ?_
        refine xr_bipush dX12_solution_40 (by decide) ?_
        obtain ⟨q15, hT16, hF17⟩ := h
        refine xr_icmp_ne (tgt := 47) dX12_solution_42 (by decide) q15 (by decide) (fun c => ?_) (fun c => ?_)
        · have h := hT16 c
          refine xr_aload_n dX12_solution_47 rfl ?_
          refine xr_getR dX12_solution_48 fl_X12_137 L_74 rfl ?_
          refine xr_aload_n dX12_solution_51 rfl ?_
          refine xr_getI' (v := m6 74 67) dX12_solution_52 fl_X12_397 L_74 rfl rfl rfl ?_
          refine xr_iload_n dX12_solution_55 rfl ?_
          obtain ⟨q18, h⟩ := h
          refine xr_iastore dX12_solution_56 L_114 rfl (by decide) q18 ?_
          refine xr_aload_n dX12_solution_57 rfl ?_
          refine xr_getR dX12_solution_58 fl_X12_140 L_74 rfl ?_
          refine xr_aload_n dX12_solution_61 rfl ?_
          refine xr_getI' (v := m6 74 67) dX12_solution_62 fl_X12_397 L_74 rfl rfl (by simp [st2, cpy]) ?_
          refine xr_iload_n dX12_solution_65 rfl ?_
          refine xr_iastore dX12_solution_66 L_115 rfl (by decide) q18 ?_
          refine xr_aload_n dX12_solution_67 rfl ?_
          refine xr_getR dX12_solution_68 fl_X12_143 L_74 rfl ?_
          refine xr_aload_n dX12_solution_71 rfl ?_
          refine xr_getI' (v := m6 74 67) dX12_solution_72 fl_X12_397 L_74 rfl rfl (by simp [st2, cpy]) ?_
          refine xr_aload_n dX12_solution_75 rfl ?_
          refine xr_getI' (v := m6 74 4) dX12_solution_76 fl_X12_202 L_74 rfl rfl (by simp [st2, cpy]) ?_
          refine xr_iastore dX12_solution_79 L_116 rfl (by decide) q18 ?_
          refine xr_aload_n dX12_solution_80 rfl ?_
          refine xr_dup dX12_solution_81 rfl ?_
          refine xr_getI' (v := m6 74 67) dX12_solution_82 fl_X12_397 L_74 rfl rfl (by simp [st2, cpy]) ?_
          refine xr_iconst dX12_solution_85 ?_
          refine xr_iadd dX12_solution_86 ?_
          refine xr_putI dX12_solution_87 fp_X12_397 L_74 rfl rfl ⟨rfl, rfl⟩ ?_
          refine xr_iconst dX12_solution_90 ?_
          exact xr_zret dX12_solution_91 rfl (x_nz (by decide)).1 ⟨rfl, _, rfl, x_01 (by decide), h⟩
        · have h := hF17 c
          refine xr_iconst dX12_solution_45 ?_
          exact xr_zret dX12_solution_46 rfl (x_nz (by decide)).1 ⟨rfl, _, rfl, x_01 (by decide), h⟩
theorem dX12_solutionOf_0 : decode cX12_solutionOf 0 = .ok (.iconst (-1), 1) := by decide +kernel
theorem dX12_solutionOf_1 : decode cX12_solutionOf 1 = .ok (.istore_n 3, 1) := by decide +kernel
theorem dX12_solutionOf_2 : decode cX12_solutionOf 2 = .ok (.iconst 0, 1) := by decide +kernel
theorem dX12_solutionOf_3 : decode cX12_solutionOf 3 = .ok (.istore 4, 2) := by decide +kernel
theorem dX12_solutionOf_5 : decode cX12_solutionOf 5 = .ok (.iload 4, 2) := by decide +kernel
theorem dX12_solutionOf_7 : decode cX12_solutionOf 7 = .ok (.aload_n 0, 1) := by decide +kernel
theorem dX12_solutionOf_8 : decode cX12_solutionOf 8 = .ok (.getfield 397, 3) := by decide +kernel
theorem dX12_solutionOf_11 : decode cX12_solutionOf 11 = .ok (.if_icmp .ge 39, 3) := by decide +kernel
theorem dX12_solutionOf_14 : decode cX12_solutionOf 14 = .ok (.aload_n 0, 1) := by decide +kernel
theorem dX12_solutionOf_15 : decode cX12_solutionOf 15 = .ok (.getfield 137, 3) := by decide +kernel
theorem dX12_solutionOf_18 : decode cX12_solutionOf 18 = .ok (.iload 4, 2) := by decide +kernel
theorem dX12_solutionOf_20 : decode cX12_solutionOf 20 = .ok (.iaload, 1) := by decide +kernel
theorem dX12_solutionOf_21 : decode cX12_solutionOf 21 = .ok (.iload_n 1, 1) := by decide +kernel
theorem dX12_solutionOf_22 : decode cX12_solutionOf 22 = .ok (.if_icmp .ne 22, 3) := by decide +kernel
theorem dX12_solutionOf_25 : decode cX12_solutionOf 25 = .ok (.aload_n 0, 1) := by decide +kernel
theorem dX12_solutionOf_26 : decode cX12_solutionOf 26 = .ok (.getfield 143, 3) := by decide +kernel
theorem dX12_solutionOf_29 : decode cX12_solutionOf 29 = .ok (.iload 4, 2) := by decide +kernel
theorem dX12_solutionOf_31 : decode cX12_solutionOf 31 = .ok (.iaload, 1) := by decide +kernel
theorem dX12_solutionOf_32 : decode cX12_solutionOf 32 = .ok (.iload_n 2, 1) := by decide +kernel
theorem dX12_solutionOf_33 : decode cX12_solutionOf 33 = .ok (.if_icmp .gt 11, 3) := by decide +kernel
theorem dX12_solutionOf_36 : decode cX12_solutionOf 36 = .ok (.aload_n 0, 1) := by decide +kernel
theorem dX12_solutionOf_37 : decode cX12_solutionOf 37 = .ok (.getfield 140, 3) := by decide +kernel
theorem dX12_solutionOf_40 : decode cX12_solutionOf 40 = .ok (.iload 4, 2) := by decide +kernel
theorem dX12_solutionOf_42 : decode cX12_solutionOf 42 = .ok (.iaload, 1) := by decide +kernel
theorem dX12_solutionOf_43 : decode cX12_solutionOf 43 = .ok (.istore_n 3, 1) := by decide +kernel
theorem dX12_solutionOf_44 : decode cX12_solutionOf 44 = .ok (.iinc 4 1, 3) := by decide +kernel
theorem dX12_solutionOf_47 : decode cX12_solutionOf 47 = .ok (.goto (-42), 3) := by decide +kernel
theorem dX12_solutionOf_50 : decode cX12_solutionOf 50 = .ok (.iload_n 3, 1) := by decide +kernel
theorem dX12_solutionOf_51 : decode cX12_solutionOf 51 = .ok (.ireturn, 1) := by decide +kernel
def K_X12_solutionOf_5 (G : xG) (l : Launch) (d : Nat) (P : Int → xMem → Prop) (v1 v2 v3 v4 : Int) (μ : xMem) : Prop := RR G l d 0 0 false mX12_solutionOf (qI P) 5 [some (xr G 74), some (xi v1), some (xi v2), some (xi v3), some (xi v4)] [] LAY μ 0 0
set_option maxRecDepth 20000 in
theorem E_X12_solutionOf {G : xG} {l : Launch} {d : Nat} {P : Int → xMem → Prop} {v1 v2 : Int} {μ : xMem} (h : K_X12_solutionOf_5 G l (d + 1) P v1 v2 (-1) 0 μ) : CI G l (d + 1) mX12_solutionOf [xr G 74, xi v1, xi v2] μ P := by
  refine CC.ofRR (ll := [some (xr G 74), some (xi v1), some (xi v2), none, none]) (by decide +kernel) (Nat.le_of_ble_eq_true rfl) rfl (fun h => by cases h) ?_
  refine xr_iconst dX12_solutionOf_0 ?_
  refine xr_istore_n' (ll' := [some (xr G 74), some (xi v1), some (xi v2), some (xi (-1)), none]) dX12_solutionOf_1 (by decide) rfl rfl ?_
  refine xr_iconst dX12_solutionOf_2 ?_
  refine xr_istore' (ll' := [some (xr G 74), some (xi v1), some (xi v2), some (xi (-1)), some (xi 0)]) dX12_solutionOf_3 (by decide) rfl rfl ?_
  exact h
set_option maxRecDepth 20000 in
theorem B_X12_solutionOf_5 {G : xG} {l : Launch} {d : Nat} {P : Int → xMem → Prop} {v1 v2 v3 v4 : Int} {μ : xMem} (h : (iR v4 ∧ iR (μ 74 67) ∧ ((μ 74 67) ≤ v4 → (iR v3 ∧ P v3 μ)) ∧ (v4 < (μ 74 67) → ((0 ≤ v4 ∧ v4 < 60) ∧ (iR (μ 114 v4) ∧ iR v1 ∧ ((μ 114 v4) ≠ v1 → K_X12_solutionOf_5 G l (d + 1) P v1 v2 v3 (v4 + 1) μ) ∧ ((μ 114 v4) = v1 → (iR (μ 116 v4) ∧ iR v2 ∧ (v2 < (μ 116 v4) → K_X12_solutionOf_5 G l (d + 1) P v1 v2 v3 (v4 + 1) μ) ∧ ((μ 116 v4) ≤ v2 → K_X12_solutionOf_5 G l (d + 1) P v1 v2 (μ 115 v4) (v4 + 1) μ)))))))) : K_X12_solutionOf_5 G l (d + 1) P v1 v2 v3 v4 μ := by
  unfold K_X12_solutionOf_5
  refine xr_iload dX12_solutionOf_5 rfl ?_
  refine xr_aload_n dX12_solutionOf_7 rfl ?_
  refine xr_getI' (v := μ 74 67) dX12_solutionOf_8 fl_X12_397 L_74 rfl rfl rfl ?_
  obtain ⟨q1, q2, hT3, hF4⟩ := h
  refine xr_icmp_ge (tgt := 50) dX12_solutionOf_11 (by decide) q1 q2 (fun c => ?_) (fun c => ?_)
  · have h := hT3 c
    refine xr_iload_n dX12_solutionOf_50 rfl ?_
    obtain ⟨q5, h⟩ := h
    exact xr_iret dX12_solutionOf_51 rfl ⟨rfl, _, rfl, q5, h⟩
  · have h := hF4 (Int.not_le.mp c)
    refine xr_aload_n dX12_solutionOf_14 rfl ?_
    refine xr_getR dX12_solutionOf_15 fl_X12_137 L_74 rfl ?_
    refine xr_iload dX12_solutionOf_18 rfl ?_
    obtain ⟨q6, h⟩ := h
    refine xr_iaload' (v := μ 114 v4) dX12_solutionOf_20 L_114 rfl (by decide) q6 rfl ?_
    refine xr_iload_n dX12_solutionOf_21 rfl ?_
    obtain ⟨q7, q8, hT9, hF10⟩ := h
    refine xr_icmp_ne (tgt := 44) dX12_solutionOf_22 (by decide) q7 q8 (fun c => ?_) (fun c => ?_)
    · have h := hT9 c
      refine xr_iinc' (ll' := [some (xr G 74), some (xi v1), some (xi v2), some (xi v3), some (xi (v4 + 1))]) dX12_solutionOf_44 rfl (by decide) rfl rfl ?_
      refine xr_goto (tgt := 5) dX12_solutionOf_47 (by decide) ?_
      exact h
    · have h := hF10 c
      refine xr_aload_n dX12_solutionOf_25 rfl ?_
      refine xr_getR dX12_solutionOf_26 fl_X12_143 L_74 rfl ?_
      refine xr_iload dX12_solutionOf_29 rfl ?_
      refine xr_iaload' (v := μ 116 v4) dX12_solutionOf_31 L_116 rfl (by decide) q6 rfl ?_
      refine xr_iload_n dX12_solutionOf_32 rfl ?_
      obtain ⟨q11, q12, hT13, hF14⟩ := h
      refine xr_icmp_gt (tgt := 44) dX12_solutionOf_33 (by decide) q11 q12 (fun c => ?_) (fun c => ?_)
      · have h := hT13 c
        refine xr_iinc' (ll' := [some (xr G 74), some (xi v1), some (xi v2), some (xi v3), some (xi (v4 + 1))]) dX12_solutionOf_44 rfl (by decide) rfl rfl ?_
        refine xr_goto (tgt := 5) dX12_solutionOf_47 (by decide) ?_
        exact h
      · have h := hF14 (Int.not_lt.mp c)
        refine xr_aload_n dX12_solutionOf_36 rfl ?_
        refine xr_getR dX12_solutionOf_37 fl_X12_140 L_74 rfl ?_
        refine xr_iload dX12_solutionOf_40 rfl ?_
        refine xr_iaload' (v := μ 115 v4) dX12_solutionOf_42 L_115 rfl (by decide) q6 rfl ?_
        refine xr_istore_n' (ll' := [some (xr G 74), some (xi v1), some (xi v2), some (xi (μ 115 v4)), some (xi v4)]) dX12_solutionOf_43 (by decide) rfl rfl ?_
        refine xr_iinc' (ll' := [some (xr G 74), some (xi v1), some (xi v2), some (xi (μ 115 v4)), some (xi (v4 + 1))]) dX12_solutionOf_44 rfl (by decide) rfl rfl ?_
        refine xr_goto (tgt := 5) dX12_solutionOf_47 (by decide) ?_
        exact h
theorem dX12_isCell_0 : decode cX12_isCell 0 = .ok (.iload_n 0, 1) := by decide +kernel
theorem dX12_isCell_1 : decode cX12_isCell 1 = .ok (.iconst 0, 1) := by decide +kernel
theorem dX12_isCell_2 : decode cX12_isCell 2 = .ok (.bipush 8, 2) := by decide +kernel
theorem dX12_isCell_4 : decode cX12_isCell 4 = .ok (.invokestatic 198, 3) := by decide +kernel
theorem dX12_isCell_7 : decode cX12_isCell 7 = .ok (.ifCond .eq 17, 3) := by decide +kernel
theorem dX12_isCell_10 : decode cX12_isCell 10 = .ok (.iload_n 1, 1) := by decide +kernel
theorem dX12_isCell_11 : decode cX12_isCell 11 = .ok (.iconst 0, 1) := by decide +kernel
theorem dX12_isCell_12 : decode cX12_isCell 12 = .ok (.bipush 8, 2) := by decide +kernel
theorem dX12_isCell_14 : decode cX12_isCell 14 = .ok (.invokestatic 198, 3) := by decide +kernel
theorem dX12_isCell_17 : decode cX12_isCell 17 = .ok (.ifCond .eq 7, 3) := by decide +kernel
theorem dX12_isCell_20 : decode cX12_isCell 20 = .ok (.iconst 1, 1) := by decide +kernel
theorem dX12_isCell_21 : decode cX12_isCell 21 = .ok (.goto 4, 3) := by decide +kernel
theorem dX12_isCell_24 : decode cX12_isCell 24 = .ok (.iconst 0, 1) := by decide +kernel
theorem dX12_isCell_25 : decode cX12_isCell 25 = .ok (.ireturn, 1) := by decide +kernel
set_option maxRecDepth 20000 in
theorem E_X12_isCell {G : xG} {l : Launch} {d : Nat} {P : Int → xMem → Prop} {v0 v1 : Int} {μ : xMem} (h : CI G l d mX12_isIn [xi v0, xi 0, xi 8] μ (fun r1 m2 => ((r1 = 0 → P 0 m2) ∧ (r1 ≠ 0 → CI G l d mX12_isIn [xi v1, xi 0, xi 8] m2 (fun r5 m6 => ((r5 = 0 → P 0 m6) ∧ (r5 ≠ 0 → P 1 m6))))))) : CI G l (d + 1) mX12_isCell [xi v0, xi v1] μ P := by
  refine CC.ofRR (ll := [some (xi v0), some (xi v1)]) (by decide +kernel) (Nat.le_of_ble_eq_true rfl) rfl (fun h => by cases h) ?_
  refine xr_iload_n dX12_isCell_0 rfl ?_
  refine xr_iconst dX12_isCell_1 ?_
  refine xr_bipush dX12_isCell_2 (by decide) ?_
  refine xr_csI (As := [xi v0, xi 0, xi 8]) dX12_isCell_4 ms_X12_isIn ml_X12_198 rfl rfl (Nat.le_of_ble_eq_true rfl) h (fun r1 m2 hr1 h => ?_)
  obtain ⟨hT3, hF4⟩ := h
  refine xr_if_eq (tgt := 24) dX12_isCell_7 (by decide) hr1  (fun c => ?_) (fun c => ?_)
  · have h := hT3 c
    refine xr_iconst dX12_isCell_24 ?_
    exact xr_zret dX12_isCell_25 rfl (x_nz (by decide)).1 ⟨rfl, _, rfl, x_01 (by decide), h⟩
  · have h := hF4 c
    refine xr_iload_n dX12_isCell_10 rfl ?_
    refine xr_iconst dX12_isCell_11 ?_
    refine xr_bipush dX12_isCell_12 (by decide) ?_
    refine xr_csI (As := [xi v1, xi 0, xi 8]) dX12_isCell_14 ms_X12_isIn ml_X12_198 rfl rfl (Nat.le_of_ble_eq_true rfl) h (fun r5 m6 hr5 h => ?_)
    obtain ⟨hT7, hF8⟩ := h
    refine xr_if_eq (tgt := 24) dX12_isCell_17 (by decide) hr5  (fun c => ?_) (fun c => ?_)
    · have h := hT7 c
      refine xr_iconst dX12_isCell_24 ?_
      exact xr_zret dX12_isCell_25 rfl (x_nz (by decide)).1 ⟨rfl, _, rfl, x_01 (by decide), h⟩
    · have h := hF8 c
      refine xr_iconst dX12_isCell_20 ?_
      refine xr_goto (tgt := 25) dX12_isCell_21 (by decide) ?_
      exact xr_zret dX12_isCell_25 rfl (x_nz (by decide)).1 ⟨rfl, _, rfl, x_01 (by decide), h⟩
theorem dX12_isLit_0 : decode cX12_isLit 0 = .ok (.aload_n 0, 1) := by decide +kernel
theorem dX12_isLit_1 : decode cX12_isLit 1 = .ok (.getfield 128, 3) := by decide +kernel
theorem dX12_isLit_4 : decode cX12_isLit 4 = .ok (.iload_n 1, 1) := by decide +kernel
theorem dX12_isLit_5 : decode cX12_isLit 5 = .ok (.iaload, 1) := by decide +kernel
theorem dX12_isLit_6 : decode cX12_isLit 6 = .ok (.ifCond .gt 12, 3) := by decide +kernel
theorem dX12_isLit_9 : decode cX12_isLit 9 = .ok (.aload_n 0, 1) := by decide +kernel
theorem dX12_isLit_10 : decode cX12_isLit 10 = .ok (.getfield 131, 3) := by decide +kernel
theorem dX12_isLit_13 : decode cX12_isLit 13 = .ok (.iload_n 1, 1) := by decide +kernel
theorem dX12_isLit_14 : decode cX12_isLit 14 = .ok (.iaload, 1) := by decide +kernel
theorem dX12_isLit_15 : decode cX12_isLit 15 = .ok (.ifCond .le 7, 3) := by decide +kernel
theorem dX12_isLit_18 : decode cX12_isLit 18 = .ok (.iconst 1, 1) := by decide +kernel
theorem dX12_isLit_19 : decode cX12_isLit 19 = .ok (.goto 4, 3) := by decide +kernel
theorem dX12_isLit_22 : decode cX12_isLit 22 = .ok (.iconst 0, 1) := by decide +kernel
theorem dX12_isLit_23 : decode cX12_isLit 23 = .ok (.ireturn, 1) := by decide +kernel
set_option maxRecDepth 20000 in
theorem E_X12_isLit {G : xG} {l : Launch} {d : Nat} {P : Int → xMem → Prop} {v1 : Int} {μ : xMem} (h : ((0 ≤ v1 ∧ v1 < 81) ∧ (iR (μ 111 v1) ∧ (0 < (μ 111 v1) → P 1 μ) ∧ ((μ 111 v1) ≤ 0 → (iR (μ 112 v1) ∧ ((μ 112 v1) ≤ 0 → P 0 μ) ∧ (0 < (μ 112 v1) → P 1 μ)))))) : CI G l (d + 1) mX12_isLit [xr G 74, xi v1] μ P := by
  refine CC.ofRR (ll := [some (xr G 74), some (xi v1)]) (by decide +kernel) (Nat.le_of_ble_eq_true rfl) rfl (fun h => by cases h) ?_
  refine xr_aload_n dX12_isLit_0 rfl ?_
  refine xr_getR dX12_isLit_1 fl_X12_128 L_74 rfl ?_
  refine xr_iload_n dX12_isLit_4 rfl ?_
  obtain ⟨q1, h⟩ := h
  refine xr_iaload' (v := μ 111 v1) dX12_isLit_5 L_111 rfl (by decide) q1 rfl ?_
  obtain ⟨q2, hT3, hF4⟩ := h
  refine xr_if_gt (tgt := 18) dX12_isLit_6 (by decide) q2  (fun c => ?_) (fun c => ?_)
  · have h := hT3 c
    refine xr_iconst dX12_isLit_18 ?_
    refine xr_goto (tgt := 23) dX12_isLit_19 (by decide) ?_
    exact xr_zret dX12_isLit_23 rfl (x_nz (by decide)).1 ⟨rfl, _, rfl, x_01 (by decide), h⟩
  · have h := hF4 (Int.not_lt.mp c)
    refine xr_aload_n dX12_isLit_9 rfl ?_
    refine xr_getR dX12_isLit_10 fl_X12_131 L_74 rfl ?_
    refine xr_iload_n dX12_isLit_13 rfl ?_
    refine xr_iaload' (v := μ 112 v1) dX12_isLit_14 L_112 rfl (by decide) q1 rfl ?_
    obtain ⟨q5, hT6, hF7⟩ := h
    refine xr_if_le (tgt := 22) dX12_isLit_15 (by decide) q5  (fun c => ?_) (fun c => ?_)
    · have h := hT6 c
      refine xr_iconst dX12_isLit_22 ?_
      exact xr_zret dX12_isLit_23 rfl (x_nz (by decide)).1 ⟨rfl, _, rfl, x_01 (by decide), h⟩
    · have h := hF7 (Int.not_le.mp c)
      refine xr_iconst dX12_isLit_18 ?_
      refine xr_goto (tgt := 23) dX12_isLit_19 (by decide) ?_
      exact xr_zret dX12_isLit_23 rfl (x_nz (by decide)).1 ⟨rfl, _, rfl, x_01 (by decide), h⟩
theorem dX12_enter_0 : decode cX12_enter 0 = .ok (.aload_n 0, 1) := by decide +kernel
theorem dX12_enter_1 : decode cX12_enter 1 = .ok (.iconst 0, 1) := by decide +kernel
theorem dX12_enter_2 : decode cX12_enter 2 = .ok (.putfield 185, 3) := by decide +kernel
theorem dX12_enter_5 : decode cX12_enter 5 = .ok (.iload_n 1, 1) := by decide +kernel
theorem dX12_enter_6 : decode cX12_enter 6 = .ok (.iload_n 2, 1) := by decide +kernel
theorem dX12_enter_7 : decode cX12_enter 7 = .ok (.invokestatic 400, 3) := by decide +kernel
theorem dX12_enter_10 : decode cX12_enter 10 = .ok (.ifCond .eq 26, 3) := by decide +kernel
theorem dX12_enter_13 : decode cX12_enter 13 = .ok (.iload_n 3, 1) := by decide +kernel
theorem dX12_enter_14 : decode cX12_enter 14 = .ok (.iconst 0, 1) := by decide +kernel
theorem dX12_enter_15 : decode cX12_enter 15 = .ok (.bipush 26, 2) := by decide +kernel
theorem dX12_enter_17 : decode cX12_enter 17 = .ok (.invokestatic 198, 3) := by decide +kernel
theorem dX12_enter_20 : decode cX12_enter 20 = .ok (.ifCond .eq 16, 3) := by decide +kernel
theorem dX12_enter_23 : decode cX12_enter 23 = .ok (.aload_n 0, 1) := by decide +kernel
theorem dX12_enter_24 : decode cX12_enter 24 = .ok (.bipush 9, 2) := by decide +kernel
theorem dX12_enter_26 : decode cX12_enter 26 = .ok (.iload_n 1, 1) := by decide +kernel
theorem dX12_enter_27 : decode cX12_enter 27 = .ok (.imul, 1) := by decide +kernel
theorem dX12_enter_28 : decode cX12_enter 28 = .ok (.iload_n 2, 1) := by decide +kernel
theorem dX12_enter_29 : decode cX12_enter 29 = .ok (.iadd, 1) := by decide +kernel
theorem dX12_enter_30 : decode cX12_enter 30 = .ok (.invokevirtual 403, 3) := by decide +kernel
theorem dX12_enter_33 : decode cX12_enter 33 = .ok (.ifCond .ne 5, 3) := by decide +kernel
theorem dX12_enter_36 : decode cX12_enter 36 = .ok (.iconst 0, 1) := by decide +kernel
theorem dX12_enter_37 : decode cX12_enter 37 = .ok (.ireturn, 1) := by decide +kernel
theorem dX12_enter_38 : decode cX12_enter 38 = .ok (.aload_n 0, 1) := by decide +kernel
theorem dX12_enter_39 : decode cX12_enter 39 = .ok (.getfield 134, 3) := by decide +kernel
theorem dX12_enter_42 : decode cX12_enter 42 = .ok (.bipush 9, 2) := by decide +kernel
theorem dX12_enter_44 : decode cX12_enter 44 = .ok (.iload_n 1, 1) := by decide +kernel
theorem dX12_enter_45 : decode cX12_enter 45 = .ok (.imul, 1) := by decide +kernel
theorem dX12_enter_46 : decode cX12_enter 46 = .ok (.iload_n 2, 1) := by decide +kernel
theorem dX12_enter_47 : decode cX12_enter 47 = .ok (.iadd, 1) := by decide +kernel
theorem dX12_enter_48 : decode cX12_enter 48 = .ok (.iload_n 3, 1) := by decide +kernel
theorem dX12_enter_49 : decode cX12_enter 49 = .ok (.iastore, 1) := by decide +kernel
theorem dX12_enter_50 : decode cX12_enter 50 = .ok (.iconst 1, 1) := by decide +kernel
theorem dX12_enter_51 : decode cX12_enter 51 = .ok (.ireturn, 1) := by decide +kernel
set_option maxRecDepth 20000 in
theorem E_X12_enter {G : xG} {l : Launch} {d : Nat} {P : Int → xMem → Prop} {v1 v2 v3 : Int} {μ : xMem} (h : CI G l d mX12_isCell [xi v1, xi v2] (st2 μ 74 0 0) (fun r1 m2 => ((r1 = 0 → P 0 m2) ∧ (r1 ≠ 0 → CI G l d mX12_isIn [xi v3, xi 0, xi 26] m2 (fun r5 m6 => ((r5 = 0 → P 0 m6) ∧ (r5 ≠ 0 → CI G l d mX12_isLit [xr G 74, xi ((9 * v1) + v2)] m6 (fun r9 m10 => ((r9 ≠ 0 → ((0 ≤ (9 * v1) + v2 ∧ (9 * v1) + v2 < 81) ∧ P 1 (st2 m10 113 ((9 * v1) + v2) v3))) ∧ (r9 = 0 → P 0 m10)))))))))) : CI G l (d + 1) mX12_enter [xr G 74, xi v1, xi v2, xi v3] μ P := by
  refine CC.ofRR (ll := [some (xr G 74), some (xi v1), some (xi v2), some (xi v3)]) (by decide +kernel) (Nat.le_of_ble_eq_true rfl) rfl (fun h => by cases h) ?_
  refine xr_aload_n dX12_enter_0 rfl ?_
  refine xr_iconst dX12_enter_1 ?_
  refine xr_putI dX12_enter_2 fp_X12_185 L_74 rfl rfl ⟨rfl, rfl⟩ ?_
  refine xr_iload_n dX12_enter_5 rfl ?_
  refine xr_iload_n dX12_enter_6 rfl ?_
  refine xr_csI (As := [xi v1, xi v2]) dX12_enter_7 ms_X12_isCell ml_X12_400 rfl rfl (Nat.le_of_ble_eq_true rfl) h (fun r1 m2 hr1 h => ?_)
  obtain ⟨hT3, hF4⟩ := h
  refine xr_if_eq (tgt := 36) dX12_enter_10 (by decide) hr1  (fun c => ?_) (fun c => ?_)
  · have h := hT3 c
    refine xr_iconst dX12_enter_36 ?_
    exact xr_zret dX12_enter_37 rfl (x_nz (by decide)).1 ⟨rfl, _, rfl, x_01 (by decide), h⟩
  · have h := hF4 c
    refine xr_iload_n dX12_enter_13 rfl ?_
    refine xr_iconst dX12_enter_14 ?_
    refine xr_bipush dX12_enter_15 (by decide) ?_
    refine xr_csI (As := [xi v3, xi 0, xi 26]) dX12_enter_17 ms_X12_isIn ml_X12_198 rfl rfl (Nat.le_of_ble_eq_true rfl) h (fun r5 m6 hr5 h => ?_)
    obtain ⟨hT7, hF8⟩ := h
    refine xr_if_eq (tgt := 36) dX12_enter_20 (by decide) hr5  (fun c => ?_) (fun c => ?_)
    · have h := hT7 c
      refine xr_iconst dX12_enter_36 ?_
      exact xr_zret dX12_enter_37 rfl (x_nz (by decide)).1 ⟨rfl, _, rfl, x_01 (by decide), h⟩
    · have h := hF8 c
      refine xr_aload_n dX12_enter_23 rfl ?_
      refine xr_bipush dX12_enter_24 (by decide) ?_
      refine xr_iload_n dX12_enter_26 rfl ?_
      refine xr_imul dX12_enter_27 ?_
      refine xr_iload_n dX12_enter_28 rfl ?_
      refine xr_iadd dX12_enter_29 ?_
      refine xr_cvI (As := [xi ((9 * v1) + v2)]) dX12_enter_30 mi_X12_isLit ml_X12_403 se_X12_isLit L_74 rfl rfl rfl (Nat.le_of_ble_eq_true rfl) h (fun r9 m10 hr9 h => ?_)
      obtain ⟨hT11, hF12⟩ := h
      refine xr_if_ne (tgt := 38) dX12_enter_33 (by decide) hr9  (fun c => ?_) (fun c => ?_)
      · have h := hT11 c
        refine xr_aload_n dX12_enter_38 rfl ?_
        refine xr_getR dX12_enter_39 fl_X12_134 L_74 rfl ?_
        refine xr_bipush dX12_enter_42 (by decide) ?_
        refine xr_iload_n dX12_enter_44 rfl ?_
        refine xr_imul dX12_enter_45 ?_
        refine xr_iload_n dX12_enter_46 rfl ?_
        refine xr_iadd dX12_enter_47 ?_
        refine xr_iload_n dX12_enter_48 rfl ?_
        obtain ⟨q13, h⟩ := h
        refine xr_iastore dX12_enter_49 L_113 rfl (by decide) q13 ?_
        refine xr_iconst dX12_enter_50 ?_
        exact xr_zret dX12_enter_51 rfl (x_nz (by decide)).1 ⟨rfl, _, rfl, x_01 (by decide), h⟩
      · have h := hF12 c
        refine xr_iconst dX12_enter_36 ?_
        exact xr_zret dX12_enter_37 rfl (x_nz (by decide)).1 ⟨rfl, _, rfl, x_01 (by decide), h⟩
theorem dX12_cell_0 : decode cX12_cell 0 = .ok (.aload_n 0, 1) := by decide +kernel
theorem dX12_cell_1 : decode cX12_cell 1 = .ok (.iconst 0, 1) := by decide +kernel
theorem dX12_cell_2 : decode cX12_cell 2 = .ok (.putfield 185, 3) := by decide +kernel
theorem dX12_cell_5 : decode cX12_cell 5 = .ok (.iload_n 1, 1) := by decide +kernel
theorem dX12_cell_6 : decode cX12_cell 6 = .ok (.iload_n 2, 1) := by decide +kernel
theorem dX12_cell_7 : decode cX12_cell 7 = .ok (.invokestatic 400, 3) := by decide +kernel
theorem dX12_cell_10 : decode cX12_cell 10 = .ok (.ifCond .eq 30, 3) := by decide +kernel
theorem dX12_cell_13 : decode cX12_cell 13 = .ok (.aload_n 0, 1) := by decide +kernel
theorem dX12_cell_14 : decode cX12_cell 14 = .ok (.bipush 9, 2) := by decide +kernel
theorem dX12_cell_16 : decode cX12_cell 16 = .ok (.iload_n 1, 1) := by decide +kernel
theorem dX12_cell_17 : decode cX12_cell 17 = .ok (.imul, 1) := by decide +kernel
theorem dX12_cell_18 : decode cX12_cell 18 = .ok (.iload_n 2, 1) := by decide +kernel
theorem dX12_cell_19 : decode cX12_cell 19 = .ok (.iadd, 1) := by decide +kernel
theorem dX12_cell_20 : decode cX12_cell 20 = .ok (.invokevirtual 403, 3) := by decide +kernel
theorem dX12_cell_23 : decode cX12_cell 23 = .ok (.ifCond .eq 17, 3) := by decide +kernel
theorem dX12_cell_26 : decode cX12_cell 26 = .ok (.aload_n 0, 1) := by decide +kernel
theorem dX12_cell_27 : decode cX12_cell 27 = .ok (.getfield 134, 3) := by decide +kernel
theorem dX12_cell_30 : decode cX12_cell 30 = .ok (.bipush 9, 2) := by decide +kernel
theorem dX12_cell_32 : decode cX12_cell 32 = .ok (.iload_n 1, 1) := by decide +kernel
theorem dX12_cell_33 : decode cX12_cell 33 = .ok (.imul, 1) := by decide +kernel
theorem dX12_cell_34 : decode cX12_cell 34 = .ok (.iload_n 2, 1) := by decide +kernel
theorem dX12_cell_35 : decode cX12_cell 35 = .ok (.iadd, 1) := by decide +kernel
theorem dX12_cell_36 : decode cX12_cell 36 = .ok (.iaload, 1) := by decide +kernel
theorem dX12_cell_37 : decode cX12_cell 37 = .ok (.goto 4, 3) := by decide +kernel
theorem dX12_cell_40 : decode cX12_cell 40 = .ok (.iconst (-1), 1) := by decide +kernel
theorem dX12_cell_41 : decode cX12_cell 41 = .ok (.ireturn, 1) := by decide +kernel
set_option maxRecDepth 20000 in
theorem E_X12_cell {G : xG} {l : Launch} {d : Nat} {P : Int → xMem → Prop} {v1 v2 : Int} {μ : xMem} (h : CI G l d mX12_isCell [xi v1, xi v2] (st2 μ 74 0 0) (fun r1 m2 => ((r1 = 0 → P (-1) m2) ∧ (r1 ≠ 0 → CI G l d mX12_isLit [xr G 74, xi ((9 * v1) + v2)] m2 (fun r5 m6 => ((r5 = 0 → P (-1) m6) ∧ (r5 ≠ 0 → ((0 ≤ (9 * v1) + v2 ∧ (9 * v1) + v2 < 81) ∧ (iR (m6 113 ((9 * v1) + v2)) ∧ P (m6 113 ((9 * v1) + v2)) m6))))))))) : CI G l (d + 1) mX12_cell [xr G 74, xi v1, xi v2] μ P := by
  refine CC.ofRR (ll := [some (xr G 74), some (xi v1), some (xi v2)]) (by decide +kernel) (Nat.le_of_ble_eq_true rfl) rfl (fun h => by cases h) ?_
  refine xr_aload_n dX12_cell_0 rfl ?_
  refine xr_iconst dX12_cell_1 ?_
  refine xr_putI dX12_cell_2 fp_X12_185 L_74 rfl rfl ⟨rfl, rfl⟩ ?_
  refine xr_iload_n dX12_cell_5 rfl ?_
  refine xr_iload_n dX12_cell_6 rfl ?_
  refine xr_csI (As := [xi v1, xi v2]) dX12_cell_7 ms_X12_isCell ml_X12_400 rfl rfl (Nat.le_of_ble_eq_true rfl) h (fun r1 m2 hr1 h => ?_)
  obtain ⟨hT3, hF4⟩ := h
  refine xr_if_eq (tgt := 40) dX12_cell_10 (by decide) hr1  (fun c => ?_) (fun c => ?_)
  · have h := hT3 c
    refine xr_iconst dX12_cell_40 ?_
    exact xr_iret dX12_cell_41 rfl ⟨rfl, _, rfl, (by decide), h⟩
  · have h := hF4 c
    refine xr_aload_n dX12_cell_13 rfl ?_
    refine xr_bipush dX12_cell_14 (by decide) ?_
    refine xr_iload_n dX12_cell_16 rfl ?_
    refine xr_imul dX12_cell_17 ?_
    refine xr_iload_n dX12_cell_18 rfl ?_
    refine xr_iadd dX12_cell_19 ?_
    refine xr_cvI (As := [xi ((9 * v1) + v2)]) dX12_cell_20 mi_X12_isLit ml_X12_403 se_X12_isLit L_74 rfl rfl rfl (Nat.le_of_ble_eq_true rfl) h (fun r5 m6 hr5 h => ?_)
    obtain ⟨hT7, hF8⟩ := h
    refine xr_if_eq (tgt := 40) dX12_cell_23 (by decide) hr5  (fun c => ?_) (fun c => ?_)
    · have h := hT7 c
      refine xr_iconst dX12_cell_40 ?_
      exact xr_iret dX12_cell_41 rfl ⟨rfl, _, rfl, (by decide), h⟩
    · have h := hF8 c
      refine xr_aload_n dX12_cell_26 rfl ?_
      refine xr_getR dX12_cell_27 fl_X12_134 L_74 rfl ?_
      refine xr_bipush dX12_cell_30 (by decide) ?_
      refine xr_iload_n dX12_cell_32 rfl ?_
      refine xr_imul dX12_cell_33 ?_
      refine xr_iload_n dX12_cell_34 rfl ?_
      refine xr_iadd dX12_cell_35 ?_
      obtain ⟨q9, h⟩ := h
      refine xr_iaload' (v := m6 113 ((9 * v1) + v2)) dX12_cell_36 L_113 rfl (by decide) q9 rfl ?_
      refine xr_goto (tgt := 41) dX12_cell_37 (by decide) ?_
      obtain ⟨q10, h⟩ := h
      exact xr_iret dX12_cell_41 rfl ⟨rfl, _, rfl, q10, h⟩
theorem dX12_agrees_0 : decode cX12_agrees 0 = .ok (.iconst 0, 1) := by decide +kernel
theorem dX12_agrees_1 : decode cX12_agrees 1 = .ok (.istore_n 3, 1) := by decide +kernel
theorem dX12_agrees_2 : decode cX12_agrees 2 = .ok (.iload_n 3, 1) := by decide +kernel
theorem dX12_agrees_3 : decode cX12_agrees 3 = .ok (.aload_n 0, 1) := by decide +kernel
theorem dX12_agrees_4 : decode cX12_agrees 4 = .ok (.getfield 53, 3) := by decide +kernel
theorem dX12_agrees_7 : decode cX12_agrees 7 = .ok (.iload_n 1, 1) := by decide +kernel
theorem dX12_agrees_8 : decode cX12_agrees 8 = .ok (.iaload, 1) := by decide +kernel
theorem dX12_agrees_9 : decode cX12_agrees 9 = .ok (.if_icmp .ge 43, 3) := by decide +kernel
theorem dX12_agrees_12 : decode cX12_agrees 12 = .ok (.aload_n 0, 1) := by decide +kernel
theorem dX12_agrees_13 : decode cX12_agrees 13 = .ok (.getfield 134, 3) := by decide +kernel
theorem dX12_agrees_16 : decode cX12_agrees 16 = .ok (.aload_n 0, 1) := by decide +kernel
theorem dX12_agrees_17 : decode cX12_agrees 17 = .ok (.iload_n 1, 1) := by decide +kernel
theorem dX12_agrees_18 : decode cX12_agrees 18 = .ok (.iload_n 3, 1) := by decide +kernel
theorem dX12_agrees_19 : decode cX12_agrees 19 = .ok (.invokevirtual 391, 3) := by decide +kernel
theorem dX12_agrees_22 : decode cX12_agrees 22 = .ok (.iaload, 1) := by decide +kernel
theorem dX12_agrees_23 : decode cX12_agrees 23 = .ok (.istore 4, 2) := by decide +kernel
theorem dX12_agrees_25 : decode cX12_agrees 25 = .ok (.iload 4, 2) := by decide +kernel
theorem dX12_agrees_27 : decode cX12_agrees 27 = .ok (.ifCond .le 19, 3) := by decide +kernel
theorem dX12_agrees_30 : decode cX12_agrees 30 = .ok (.iload 4, 2) := by decide +kernel
theorem dX12_agrees_32 : decode cX12_agrees 32 = .ok (.bipush 96, 2) := by decide +kernel
theorem dX12_agrees_34 : decode cX12_agrees 34 = .ok (.iadd, 1) := by decide +kernel
theorem dX12_agrees_35 : decode cX12_agrees 35 = .ok (.aload_n 0, 1) := by decide +kernel
theorem dX12_agrees_36 : decode cX12_agrees 36 = .ok (.iload_n 2, 1) := by decide +kernel
theorem dX12_agrees_37 : decode cX12_agrees 37 = .ok (.iload_n 3, 1) := by decide +kernel
theorem dX12_agrees_38 : decode cX12_agrees 38 = .ok (.invokevirtual 406, 3) := by decide +kernel
theorem dX12_agrees_41 : decode cX12_agrees 41 = .ok (.if_icmp .eq 5, 3) := by decide +kernel
theorem dX12_agrees_44 : decode cX12_agrees 44 = .ok (.iconst 0, 1) := by decide +kernel
theorem dX12_agrees_45 : decode cX12_agrees 45 = .ok (.ireturn, 1) := by decide +kernel
theorem dX12_agrees_46 : decode cX12_agrees 46 = .ok (.iinc 3 1, 3) := by decide +kernel
theorem dX12_agrees_49 : decode cX12_agrees 49 = .ok (.goto (-47), 3) := by decide +kernel
theorem dX12_agrees_52 : decode cX12_agrees 52 = .ok (.iconst 1, 1) := by decide +kernel
theorem dX12_agrees_53 : decode cX12_agrees 53 = .ok (.ireturn, 1) := by decide +kernel
def K_X12_agrees_2 (G : xG) (l : Launch) (d : Nat) (P : Int → xMem → Prop) (v1 v2 v3 : Int) (μ : xMem) : Prop := RR G l d 0 0 false mX12_agrees (qI P) 2 [some (xr G 74), some (xi v1), some (xi v2), some (xi v3), none] [] LAY μ 0 0
set_option maxRecDepth 20000 in
theorem E_X12_agrees {G : xG} {l : Launch} {d : Nat} {P : Int → xMem → Prop} {v1 v2 : Int} {μ : xMem} (h : K_X12_agrees_2 G l (d + 1) P v1 v2 0 μ) : CI G l (d + 1) mX12_agrees [xr G 74, xi v1, xi v2] μ P := by
  refine CC.ofRR (ll := [some (xr G 74), some (xi v1), some (xi v2), none, none]) (by decide +kernel) (Nat.le_of_ble_eq_true rfl) rfl (fun h => by cases h) ?_
  refine xr_iconst dX12_agrees_0 ?_
  refine xr_istore_n' (ll' := [some (xr G 74), some (xi v1), some (xi v2), some (xi 0), none]) dX12_agrees_1 (by decide) rfl rfl ?_
  exact h
set_option maxRecDepth 20000 in
theorem B_X12_agrees_2 {G : xG} {l : Launch} {d : Nat} {P : Int → xMem → Prop} {v1 v2 v3 : Int} {μ : xMem} (h : ((0 ≤ v1 ∧ v1 < 16) ∧ (iR v3 ∧ iR (μ 89 v1) ∧ ((μ 89 v1) ≤ v3 → P 1 μ) ∧ (v3 < (μ 89 v1) → CI G l d mX12_cellOf [xr G 74, xi v1, xi v3] μ (fun r6 m7 => ((0 ≤ r6 ∧ r6 < 81) ∧ (iR (m7 113 r6) ∧ ((m7 113 r6) ≤ 0 → K_X12_agrees_2 G l (d + 1) P v1 v2 (v3 + 1) m7) ∧ (0 < (m7 113 r6) → CI G l d mX12_letterOf [xr G 74, xi v2, xi v3] m7 (fun r12 m13 => (iR ((m7 113 r6) + 96) ∧ (((m7 113 r6) + 96) = r12 → K_X12_agrees_2 G l (d + 1) P v1 v2 (v3 + 1) m13) ∧ (((m7 113 r6) + 96) ≠ r12 → P 0 m13))))))))))) : K_X12_agrees_2 G l (d + 1) P v1 v2 v3 μ := by
  unfold K_X12_agrees_2
  refine xr_iload_n dX12_agrees_2 rfl ?_
  refine xr_aload_n dX12_agrees_3 rfl ?_
  refine xr_getR dX12_agrees_4 fl_X12_53 L_74 rfl ?_
  refine xr_iload_n dX12_agrees_7 rfl ?_
  obtain ⟨q1, h⟩ := h
  refine xr_iaload' (v := μ 89 v1) dX12_agrees_8 L_89 rfl (by decide) q1 rfl ?_
  obtain ⟨q2, q3, hT4, hF5⟩ := h
  refine xr_icmp_ge (tgt := 52) dX12_agrees_9 (by decide) q2 q3 (fun c => ?_) (fun c => ?_)
  · have h := hT4 c
    refine xr_iconst dX12_agrees_52 ?_
    exact xr_zret dX12_agrees_53 rfl (x_nz (by decide)).1 ⟨rfl, _, rfl, x_01 (by decide), h⟩
  · have h := hF5 (Int.not_le.mp c)
    refine xr_aload_n dX12_agrees_12 rfl ?_
    refine xr_getR dX12_agrees_13 fl_X12_134 L_74 rfl ?_
    refine xr_aload_n dX12_agrees_16 rfl ?_
    refine xr_iload_n dX12_agrees_17 rfl ?_
    refine xr_iload_n dX12_agrees_18 rfl ?_
    refine xr_cvI (As := [xi v1, xi v3]) dX12_agrees_19 mi_X12_cellOf ml_X12_391 se_X12_cellOf L_74 rfl rfl rfl (Nat.le_of_ble_eq_true rfl) h (fun r6 m7 hr6 h => ?_)
    obtain ⟨q8, h⟩ := h
    refine xr_iaload' (v := m7 113 r6) dX12_agrees_22 L_113 rfl (by decide) q8 rfl ?_
    refine xr_istore' (ll' := [some (xr G 74), some (xi v1), some (xi v2), some (xi v3), some (xi (m7 113 r6))]) dX12_agrees_23 (by decide) rfl rfl ?_
    refine xr_iload dX12_agrees_25 rfl ?_
    obtain ⟨q9, hT10, hF11⟩ := h
    refine xr_if_le (tgt := 46) dX12_agrees_27 (by decide) q9  (fun c => ?_) (fun c => ?_)
    · have h := hT10 c
      refine xr_iinc' (ll' := [some (xr G 74), some (xi v1), some (xi v2), some (xi (v3 + 1)), some (xi (m7 113 r6))]) dX12_agrees_46 rfl (by decide) rfl rfl ?_
      refine xr_goto (tgt := 2) dX12_agrees_49 (by decide) ?_
      refine xr_wk (ll' := [some (xr G 74), some (xi v1), some (xi v2), some (xi (v3 + 1)), none]) ⟨rfl, ⟨rfl, ⟨rfl, ⟨rfl, trivial⟩⟩⟩⟩ ?_
      exact h
    · have h := hF11 (Int.not_le.mp c)
      refine xr_iload dX12_agrees_30 rfl ?_
      refine xr_bipush dX12_agrees_32 (by decide) ?_
      refine xr_iadd dX12_agrees_34 ?_
      refine xr_aload_n dX12_agrees_35 rfl ?_
      refine xr_iload_n dX12_agrees_36 rfl ?_
      refine xr_iload_n dX12_agrees_37 rfl ?_
      refine xr_cvI (As := [xi v2, xi v3]) dX12_agrees_38 mi_X12_letterOf ml_X12_406 se_X12_letterOf L_74 rfl rfl rfl (Nat.le_of_ble_eq_true rfl) h (fun r12 m13 hr12 h => ?_)
      obtain ⟨q14, hT15, hF16⟩ := h
      refine xr_icmp_eq (tgt := 46) dX12_agrees_41 (by decide) q14 hr12 (fun c => ?_) (fun c => ?_)
      · have h := hT15 c
        refine xr_iinc' (ll' := [some (xr G 74), some (xi v1), some (xi v2), some (xi (v3 + 1)), some (xi (m7 113 r6))]) dX12_agrees_46 rfl (by decide) rfl rfl ?_
        refine xr_goto (tgt := 2) dX12_agrees_49 (by decide) ?_
        refine xr_wk (ll' := [some (xr G 74), some (xi v1), some (xi v2), some (xi (v3 + 1)), none]) ⟨rfl, ⟨rfl, ⟨rfl, ⟨rfl, trivial⟩⟩⟩⟩ ?_
        exact h
      · have h := hF16 c
        refine xr_iconst dX12_agrees_44 ?_
        exact xr_zret dX12_agrees_45 rfl (x_nz (by decide)).1 ⟨rfl, _, rfl, x_01 (by decide), h⟩
theorem dX12_isBorne_0 : decode cX12_isBorne 0 = .ok (.iconst 0, 1) := by decide +kernel
theorem dX12_isBorne_1 : decode cX12_isBorne 1 = .ok (.istore_n 3, 1) := by decide +kernel
theorem dX12_isBorne_2 : decode cX12_isBorne 2 = .ok (.iload_n 3, 1) := by decide +kernel
theorem dX12_isBorne_3 : decode cX12_isBorne 3 = .ok (.aload_n 0, 1) := by decide +kernel
theorem dX12_isBorne_4 : decode cX12_isBorne 4 = .ok (.getfield 53, 3) := by decide +kernel
theorem dX12_isBorne_7 : decode cX12_isBorne 7 = .ok (.iload_n 1, 1) := by decide +kernel
theorem dX12_isBorne_8 : decode cX12_isBorne 8 = .ok (.iaload, 1) := by decide +kernel
theorem dX12_isBorne_9 : decode cX12_isBorne 9 = .ok (.if_icmp .ge 113, 3) := by decide +kernel
theorem dX12_isBorne_12 : decode cX12_isBorne 12 = .ok (.aload_n 0, 1) := by decide +kernel
theorem dX12_isBorne_13 : decode cX12_isBorne 13 = .ok (.iload_n 1, 1) := by decide +kernel
theorem dX12_isBorne_14 : decode cX12_isBorne 14 = .ok (.iload_n 3, 1) := by decide +kernel
theorem dX12_isBorne_15 : decode cX12_isBorne 15 = .ok (.invokevirtual 391, 3) := by decide +kernel
theorem dX12_isBorne_18 : decode cX12_isBorne 18 = .ok (.istore 4, 2) := by decide +kernel
theorem dX12_isBorne_20 : decode cX12_isBorne 20 = .ok (.aload_n 0, 1) := by decide +kernel
theorem dX12_isBorne_21 : decode cX12_isBorne 21 = .ok (.iload_n 1, 1) := by decide +kernel
theorem dX12_isBorne_22 : decode cX12_isBorne 22 = .ok (.iload 4, 2) := by decide +kernel
theorem dX12_isBorne_24 : decode cX12_isBorne 24 = .ok (.invokevirtual 409, 3) := by decide +kernel
theorem dX12_isBorne_27 : decode cX12_isBorne 27 = .ok (.istore 5, 2) := by decide +kernel
theorem dX12_isBorne_29 : decode cX12_isBorne 29 = .ok (.iload 5, 2) := by decide +kernel
theorem dX12_isBorne_31 : decode cX12_isBorne 31 = .ok (.ifCond .ge 6, 3) := by decide +kernel
theorem dX12_isBorne_34 : decode cX12_isBorne 34 = .ok (.goto 82, 3) := by decide +kernel
theorem dX12_isBorne_37 : decode cX12_isBorne 37 = .ok (.iconst 0, 1) := by decide +kernel
theorem dX12_isBorne_38 : decode cX12_isBorne 38 = .ok (.istore 6, 2) := by decide +kernel
theorem dX12_isBorne_40 : decode cX12_isBorne 40 = .ok (.iconst 0, 1) := by decide +kernel
theorem dX12_isBorne_41 : decode cX12_isBorne 41 = .ok (.istore 7, 2) := by decide +kernel
theorem dX12_isBorne_43 : decode cX12_isBorne 43 = .ok (.iload 7, 2) := by decide +kernel
theorem dX12_isBorne_45 : decode cX12_isBorne 45 = .ok (.aload_n 0, 1) := by decide +kernel
theorem dX12_isBorne_46 : decode cX12_isBorne 46 = .ok (.getfield 208, 3) := by decide +kernel
theorem dX12_isBorne_49 : decode cX12_isBorne 49 = .ok (.if_icmp .ge 60, 3) := by decide +kernel
theorem dX12_isBorne_52 : decode cX12_isBorne 52 = .ok (.iload 6, 2) := by decide +kernel
theorem dX12_isBorne_54 : decode cX12_isBorne 54 = .ok (.ifCond .ne 55, 3) := by decide +kernel
theorem dX12_isBorne_57 : decode cX12_isBorne 57 = .ok (.aload_n 0, 1) := by decide +kernel
theorem dX12_isBorne_58 : decode cX12_isBorne 58 = .ok (.getfield 152, 3) := by decide +kernel
theorem dX12_isBorne_61 : decode cX12_isBorne 61 = .ok (.bipush 120, 2) := by decide +kernel
theorem dX12_isBorne_63 : decode cX12_isBorne 63 = .ok (.iload 5, 2) := by decide +kernel
theorem dX12_isBorne_65 : decode cX12_isBorne 65 = .ok (.imul, 1) := by decide +kernel
theorem dX12_isBorne_66 : decode cX12_isBorne 66 = .ok (.iload 7, 2) := by decide +kernel
theorem dX12_isBorne_68 : decode cX12_isBorne 68 = .ok (.iadd, 1) := by decide +kernel
theorem dX12_isBorne_69 : decode cX12_isBorne 69 = .ok (.baload, 1) := by decide +kernel
theorem dX12_isBorne_70 : decode cX12_isBorne 70 = .ok (.ifCond .eq 30, 3) := by decide +kernel
theorem dX12_isBorne_73 : decode cX12_isBorne 73 = .ok (.aload_n 0, 1) := by decide +kernel
theorem dX12_isBorne_74 : decode cX12_isBorne 74 = .ok (.iload 7, 2) := by decide +kernel
theorem dX12_isBorne_76 : decode cX12_isBorne 76 = .ok (.aload_n 0, 1) := by decide +kernel
theorem dX12_isBorne_77 : decode cX12_isBorne 77 = .ok (.iload 5, 2) := by decide +kernel
theorem dX12_isBorne_79 : decode cX12_isBorne 79 = .ok (.iload 4, 2) := by decide +kernel
theorem dX12_isBorne_81 : decode cX12_isBorne 81 = .ok (.invokevirtual 412, 3) := by decide +kernel
theorem dX12_isBorne_84 : decode cX12_isBorne 84 = .ok (.invokevirtual 406, 3) := by decide +kernel
theorem dX12_isBorne_87 : decode cX12_isBorne 87 = .ok (.aload_n 0, 1) := by decide +kernel
theorem dX12_isBorne_88 : decode cX12_isBorne 88 = .ok (.iload_n 2, 1) := by decide +kernel
theorem dX12_isBorne_89 : decode cX12_isBorne 89 = .ok (.iload_n 3, 1) := by decide +kernel
theorem dX12_isBorne_90 : decode cX12_isBorne 90 = .ok (.invokevirtual 406, 3) := by decide +kernel
theorem dX12_isBorne_93 : decode cX12_isBorne 93 = .ok (.if_icmp .ne 7, 3) := by decide +kernel
theorem dX12_isBorne_96 : decode cX12_isBorne 96 = .ok (.iconst 1, 1) := by decide +kernel
theorem dX12_isBorne_97 : decode cX12_isBorne 97 = .ok (.goto 4, 3) := by decide +kernel
theorem dX12_isBorne_100 : decode cX12_isBorne 100 = .ok (.iconst 0, 1) := by decide +kernel
theorem dX12_isBorne_101 : decode cX12_isBorne 101 = .ok (.istore 6, 2) := by decide +kernel
theorem dX12_isBorne_103 : decode cX12_isBorne 103 = .ok (.iinc 7 1, 3) := by decide +kernel
theorem dX12_isBorne_106 : decode cX12_isBorne 106 = .ok (.goto (-63), 3) := by decide +kernel
theorem dX12_isBorne_109 : decode cX12_isBorne 109 = .ok (.iload 6, 2) := by decide +kernel
theorem dX12_isBorne_111 : decode cX12_isBorne 111 = .ok (.ifCond .ne 5, 3) := by decide +kernel
theorem dX12_isBorne_114 : decode cX12_isBorne 114 = .ok (.iconst 0, 1) := by decide +kernel
theorem dX12_isBorne_115 : decode cX12_isBorne 115 = .ok (.ireturn, 1) := by decide +kernel
theorem dX12_isBorne_116 : decode cX12_isBorne 116 = .ok (.iinc 3 1, 3) := by decide +kernel
theorem dX12_isBorne_119 : decode cX12_isBorne 119 = .ok (.goto (-117), 3) := by decide +kernel
theorem dX12_isBorne_122 : decode cX12_isBorne 122 = .ok (.iconst 1, 1) := by decide +kernel
theorem dX12_isBorne_123 : decode cX12_isBorne 123 = .ok (.ireturn, 1) := by decide +kernel
def K_X12_isBorne_2 (G : xG) (l : Launch) (d : Nat) (P : Int → xMem → Prop) (v1 v2 v3 : Int) (μ : xMem) : Prop := RR G l d 0 0 false mX12_isBorne (qI P) 2 [some (xr G 74), some (xi v1), some (xi v2), some (xi v3), none, none, none, none] [] LAY μ 0 0
def K_X12_isBorne_43 (G : xG) (l : Launch) (d : Nat) (P : Int → xMem → Prop) (v1 v2 v3 v4 v5 v6 v7 : Int) (μ : xMem) : Prop := RR G l d 0 0 false mX12_isBorne (qI P) 43 [some (xr G 74), some (xi v1), some (xi v2), some (xi v3), some (xi v4), some (xi v5), some (xi v6), some (xi v7)] [] LAY μ 0 0
set_option maxRecDepth 20000 in
theorem E_X12_isBorne {G : xG} {l : Launch} {d : Nat} {P : Int → xMem → Prop} {v1 v2 : Int} {μ : xMem} (h : K_X12_isBorne_2 G l (d + 1) P v1 v2 0 μ) : CI G l (d + 1) mX12_isBorne [xr G 74, xi v1, xi v2] μ P := by
  refine CC.ofRR (ll := [some (xr G 74), some (xi v1), some (xi v2), none, none, none, none, none]) (by decide +kernel) (Nat.le_of_ble_eq_true rfl) rfl (fun h => by cases h) ?_
  refine xr_iconst dX12_isBorne_0 ?_
  refine xr_istore_n' (ll' := [some (xr G 74), some (xi v1), some (xi v2), some (xi 0), none, none, none, none]) dX12_isBorne_1 (by decide) rfl rfl ?_
  exact h
set_option maxRecDepth 20000 in
theorem B_X12_isBorne_2 {G : xG} {l : Launch} {d : Nat} {P : Int → xMem → Prop} {v1 v2 v3 : Int} {μ : xMem} (h : ((0 ≤ v1 ∧ v1 < 16) ∧ (iR v3 ∧ iR (μ 89 v1) ∧ ((μ 89 v1) ≤ v3 → P 1 μ) ∧ (v3 < (μ 89 v1) → CI G l d mX12_cellOf [xr G 74, xi v1, xi v3] μ (fun r6 m7 => CI G l d mX12_other [xr G 74, xi v1, xi r6] m7 (fun r8 m9 => ((0 ≤ r8 → K_X12_isBorne_43 G l (d + 1) P v1 v2 v3 r6 r8 0 0 m9) ∧ (r8 < 0 → K_X12_isBorne_2 G l (d + 1) P v1 v2 (v3 + 1) m9)))))))) : K_X12_isBorne_2 G l (d + 1) P v1 v2 v3 μ := by
  unfold K_X12_isBorne_2
  refine xr_iload_n dX12_isBorne_2 rfl ?_
  refine xr_aload_n dX12_isBorne_3 rfl ?_
  refine xr_getR dX12_isBorne_4 fl_X12_53 L_74 rfl ?_
  refine xr_iload_n dX12_isBorne_7 rfl ?_
  obtain ⟨q1, h⟩ := h
  refine xr_iaload' (v := μ 89 v1) dX12_isBorne_8 L_89 rfl (by decide) q1 rfl ?_
  obtain ⟨q2, q3, hT4, hF5⟩ := h
  refine xr_icmp_ge (tgt := 122) dX12_isBorne_9 (by decide) q2 q3 (fun c => ?_) (fun c => ?_)
  · have h := hT4 c
    refine xr_iconst dX12_isBorne_122 ?_
    exact xr_zret dX12_isBorne_123 rfl (x_nz (by decide)).1 ⟨rfl, _, rfl, x_01 (by decide), h⟩
  · have h := hF5 (Int.not_le.mp c)
    refine xr_aload_n dX12_isBorne_12 rfl ?_
    refine xr_iload_n dX12_isBorne_13 rfl ?_
    refine xr_iload_n dX12_isBorne_14 rfl ?_
    refine xr_cvI (As := [xi v1, xi v3]) dX12_isBorne_15 mi_X12_cellOf ml_X12_391 se_X12_cellOf L_74 rfl rfl rfl (Nat.le_of_ble_eq_true rfl) h (fun r6 m7 hr6 h => ?_)
    refine xr_istore' (ll' := [some (xr G 74), some (xi v1), some (xi v2), some (xi v3), some (xi r6), none, none, none]) dX12_isBorne_18 (by decide) rfl rfl ?_
    refine xr_aload_n dX12_isBorne_20 rfl ?_
    refine xr_iload_n dX12_isBorne_21 rfl ?_
    refine xr_iload dX12_isBorne_22 rfl ?_
    refine xr_cvI (As := [xi v1, xi r6]) dX12_isBorne_24 mi_X12_other ml_X12_409 se_X12_other L_74 rfl rfl rfl (Nat.le_of_ble_eq_true rfl) h (fun r8 m9 hr8 h => ?_)
    refine xr_istore' (ll' := [some (xr G 74), some (xi v1), some (xi v2), some (xi v3), some (xi r6), some (xi r8), none, none]) dX12_isBorne_27 (by decide) rfl rfl ?_
    refine xr_iload dX12_isBorne_29 rfl ?_
    obtain ⟨hT10, hF11⟩ := h
    refine xr_if_ge (tgt := 37) dX12_isBorne_31 (by decide) hr8  (fun c => ?_) (fun c => ?_)
    · have h := hT10 c
      refine xr_iconst dX12_isBorne_37 ?_
      refine xr_istore' (ll' := [some (xr G 74), some (xi v1), some (xi v2), some (xi v3), some (xi r6), some (xi r8), some (xi 0), none]) dX12_isBorne_38 (by decide) rfl rfl ?_
      refine xr_iconst dX12_isBorne_40 ?_
      refine xr_istore' (ll' := [some (xr G 74), some (xi v1), some (xi v2), some (xi v3), some (xi r6), some (xi r8), some (xi 0), some (xi 0)]) dX12_isBorne_41 (by decide) rfl rfl ?_
      exact h
    · have h := hF11 (Int.not_le.mp c)
      refine xr_goto (tgt := 116) dX12_isBorne_34 (by decide) ?_
      refine xr_iinc' (ll' := [some (xr G 74), some (xi v1), some (xi v2), some (xi (v3 + 1)), some (xi r6), some (xi r8), none, none]) dX12_isBorne_116 rfl (by decide) rfl rfl ?_
      refine xr_goto (tgt := 2) dX12_isBorne_119 (by decide) ?_
      refine xr_wk (ll' := [some (xr G 74), some (xi v1), some (xi v2), some (xi (v3 + 1)), none, none, none, none]) ⟨rfl, ⟨rfl, ⟨rfl, ⟨rfl, trivial⟩⟩⟩⟩ ?_
      exact h
set_option maxRecDepth 20000 in
theorem B_X12_isBorne_43 {G : xG} {l : Launch} {d : Nat} {P : Int → xMem → Prop} {v1 v2 v3 v4 v5 v6 v7 : Int} {μ : xMem} (h : (iR v7 ∧ iR (μ 74 20) ∧ ((μ 74 20) ≤ v7 → (iR v6 ∧ (v6 ≠ 0 → K_X12_isBorne_2 G l (d + 1) P v1 v2 (v3 + 1) μ) ∧ (v6 = 0 → P 0 μ))) ∧ (v7 < (μ 74 20) → (iR v6 ∧ (v6 ≠ 0 → ((v6 ≠ 0 → K_X12_isBorne_2 G l (d + 1) P v1 v2 (v3 + 1) μ) ∧ (v6 = 0 → P 0 μ))) ∧ (v6 = 0 → ((0 ≤ (120 * v5) + v7 ∧ (120 * v5) + v7 < 1920) ∧ (iR (μ 119 ((120 * v5) + v7)) ∧ ((μ 119 ((120 * v5) + v7)) = 0 → K_X12_isBorne_43 G l (d + 1) P v1 v2 v3 v4 v5 0 (v7 + 1) μ) ∧ ((μ 119 ((120 * v5) + v7)) ≠ 0 → CI G l d mX12_placeIn [xr G 74, xi v5, xi v4] μ (fun r17 m18 => CI G l d mX12_letterOf [xr G 74, xi v7, xi r17] m18 (fun r19 m20 => CI G l d mX12_letterOf [xr G 74, xi v2, xi v3] m20 (fun r21 m22 => ((r19 ≠ r21 → K_X12_isBorne_43 G l (d + 1) P v1 v2 v3 v4 v5 0 (v7 + 1) m22) ∧ (r19 = r21 → K_X12_isBorne_43 G l (d + 1) P v1 v2 v3 v4 v5 1 (v7 + 1) m22))))))))))))) : K_X12_isBorne_43 G l (d + 1) P v1 v2 v3 v4 v5 v6 v7 μ := by
  unfold K_X12_isBorne_43
  refine xr_iload dX12_isBorne_43 rfl ?_
  refine xr_aload_n dX12_isBorne_45 rfl ?_
  refine xr_getI' (v := μ 74 20) dX12_isBorne_46 fl_X12_208 L_74 rfl rfl rfl ?_
  obtain ⟨q1, q2, hT3, hF4⟩ := h
  refine xr_icmp_ge (tgt := 109) dX12_isBorne_49 (by decide) q1 q2 (fun c => ?_) (fun c => ?_)
  · have h := hT3 c
    refine xr_iload dX12_isBorne_109 rfl ?_
    obtain ⟨q5, hT6, hF7⟩ := h
    refine xr_if_ne (tgt := 116) dX12_isBorne_111 (by decide) q5  (fun c => ?_) (fun c => ?_)
    · have h := hT6 c
      refine xr_iinc' (ll' := [some (xr G 74), some (xi v1), some (xi v2), some (xi (v3 + 1)), some (xi v4), some (xi v5), some (xi v6), some (xi v7)]) dX12_isBorne_116 rfl (by decide) rfl rfl ?_
      refine xr_goto (tgt := 2) dX12_isBorne_119 (by decide) ?_
      refine xr_wk (ll' := [some (xr G 74), some (xi v1), some (xi v2), some (xi (v3 + 1)), none, none, none, none]) ⟨rfl, ⟨rfl, ⟨rfl, ⟨rfl, trivial⟩⟩⟩⟩ ?_
      exact h
    · have h := hF7 c
      refine xr_iconst dX12_isBorne_114 ?_
      exact xr_zret dX12_isBorne_115 rfl (x_nz (by decide)).1 ⟨rfl, _, rfl, x_01 (by decide), h⟩
  · have h := hF4 (Int.not_le.mp c)
    refine xr_iload dX12_isBorne_52 rfl ?_
    obtain ⟨q8, hT9, hF10⟩ := h
    refine xr_if_ne (tgt := 109) dX12_isBorne_54 (by decide) q8  (fun c => ?_) (fun c => ?_)
    · have h := hT9 c
      refine xr_iload dX12_isBorne_109 rfl ?_
      obtain ⟨hT11, hF12⟩ := h
      refine xr_if_ne (tgt := 116) dX12_isBorne_111 (by decide) q8  (fun c => ?_) (fun c => ?_)
      · have h := hT11 c
        refine xr_iinc' (ll' := [some (xr G 74), some (xi v1), some (xi v2), some (xi (v3 + 1)), some (xi v4), some (xi v5), some (xi v6), some (xi v7)]) dX12_isBorne_116 rfl (by decide) rfl rfl ?_
        refine xr_goto (tgt := 2) dX12_isBorne_119 (by decide) ?_
        refine xr_wk (ll' := [some (xr G 74), some (xi v1), some (xi v2), some (xi (v3 + 1)), none, none, none, none]) ⟨rfl, ⟨rfl, ⟨rfl, ⟨rfl, trivial⟩⟩⟩⟩ ?_
        exact h
      · have h := hF12 c
        refine xr_iconst dX12_isBorne_114 ?_
        exact xr_zret dX12_isBorne_115 rfl (x_nz (by decide)).1 ⟨rfl, _, rfl, x_01 (by decide), h⟩
    · have h := hF10 c
      refine xr_aload_n dX12_isBorne_57 rfl ?_
      refine xr_getR dX12_isBorne_58 fl_X12_152 L_74 rfl ?_
      refine xr_bipush dX12_isBorne_61 (by decide) ?_
      refine xr_iload dX12_isBorne_63 rfl ?_
      refine xr_imul dX12_isBorne_65 ?_
      refine xr_iload dX12_isBorne_66 rfl ?_
      refine xr_iadd dX12_isBorne_68 ?_
      obtain ⟨q13, h⟩ := h
      refine xr_zaload' (v := μ 119 ((120 * v5) + v7)) dX12_isBorne_69 L_119 rfl (by decide) q13 rfl ?_
      obtain ⟨q14, hT15, hF16⟩ := h
      refine xr_if_eq (tgt := 100) dX12_isBorne_70 (by decide) q14  (fun c => ?_) (fun c => ?_)
      · have h := hT15 c
        refine xr_iconst dX12_isBorne_100 ?_
        refine xr_istore' (ll' := [some (xr G 74), some (xi v1), some (xi v2), some (xi v3), some (xi v4), some (xi v5), some (xi 0), some (xi v7)]) dX12_isBorne_101 (by decide) rfl rfl ?_
        refine xr_iinc' (ll' := [some (xr G 74), some (xi v1), some (xi v2), some (xi v3), some (xi v4), some (xi v5), some (xi 0), some (xi (v7 + 1))]) dX12_isBorne_103 rfl (by decide) rfl rfl ?_
        refine xr_goto (tgt := 43) dX12_isBorne_106 (by decide) ?_
        exact h
      · have h := hF16 c
        refine xr_aload_n dX12_isBorne_73 rfl ?_
        refine xr_iload dX12_isBorne_74 rfl ?_
        refine xr_aload_n dX12_isBorne_76 rfl ?_
        refine xr_iload dX12_isBorne_77 rfl ?_
        refine xr_iload dX12_isBorne_79 rfl ?_
        refine xr_cvI (As := [xi v5, xi v4]) dX12_isBorne_81 mi_X12_placeIn ml_X12_412 se_X12_placeIn L_74 rfl rfl rfl (Nat.le_of_ble_eq_true rfl) h (fun r17 m18 hr17 h => ?_)
        refine xr_cvI (As := [xi v7, xi r17]) dX12_isBorne_84 mi_X12_letterOf ml_X12_406 se_X12_letterOf L_74 rfl rfl rfl (Nat.le_of_ble_eq_true rfl) h (fun r19 m20 hr19 h => ?_)
        refine xr_aload_n dX12_isBorne_87 rfl ?_
        refine xr_iload_n dX12_isBorne_88 rfl ?_
        refine xr_iload_n dX12_isBorne_89 rfl ?_
        refine xr_cvI (As := [xi v2, xi v3]) dX12_isBorne_90 mi_X12_letterOf ml_X12_406 se_X12_letterOf L_74 rfl rfl rfl (Nat.le_of_ble_eq_true rfl) h (fun r21 m22 hr21 h => ?_)
        obtain ⟨hT23, hF24⟩ := h
        refine xr_icmp_ne (tgt := 100) dX12_isBorne_93 (by decide) hr19 hr21 (fun c => ?_) (fun c => ?_)
        · have h := hT23 c
          refine xr_iconst dX12_isBorne_100 ?_
          refine xr_istore' (ll' := [some (xr G 74), some (xi v1), some (xi v2), some (xi v3), some (xi v4), some (xi v5), some (xi 0), some (xi v7)]) dX12_isBorne_101 (by decide) rfl rfl ?_
          refine xr_iinc' (ll' := [some (xr G 74), some (xi v1), some (xi v2), some (xi v3), some (xi v4), some (xi v5), some (xi 0), some (xi (v7 + 1))]) dX12_isBorne_103 rfl (by decide) rfl rfl ?_
          refine xr_goto (tgt := 43) dX12_isBorne_106 (by decide) ?_
          exact h
        · have h := hF24 c
          refine xr_iconst dX12_isBorne_96 ?_
          refine xr_goto (tgt := 101) dX12_isBorne_97 (by decide) ?_
          refine xr_istore' (ll' := [some (xr G 74), some (xi v1), some (xi v2), some (xi v3), some (xi v4), some (xi v5), some (xi 1), some (xi v7)]) dX12_isBorne_101 (by decide) rfl rfl ?_
          refine xr_iinc' (ll' := [some (xr G 74), some (xi v1), some (xi v2), some (xi v3), some (xi v4), some (xi v5), some (xi 1), some (xi (v7 + 1))]) dX12_isBorne_103 rfl (by decide) rfl rfl ?_
          refine xr_goto (tgt := 43) dX12_isBorne_106 (by decide) ?_
          exact h
theorem dX12_narrow_0 : decode cX12_narrow 0 = .ok (.aload_n 0, 1) := by decide +kernel
theorem dX12_narrow_1 : decode cX12_narrow 1 = .ok (.iload_n 1, 1) := by decide +kernel
theorem dX12_narrow_2 : decode cX12_narrow 2 = .ok (.invokevirtual 388, 3) := by decide +kernel
theorem dX12_narrow_5 : decode cX12_narrow 5 = .ok (.iconst 0, 1) := by decide +kernel
theorem dX12_narrow_6 : decode cX12_narrow 6 = .ok (.istore_n 2, 1) := by decide +kernel
theorem dX12_narrow_7 : decode cX12_narrow 7 = .ok (.iload_n 2, 1) := by decide +kernel
theorem dX12_narrow_8 : decode cX12_narrow 8 = .ok (.bipush 16, 2) := by decide +kernel
theorem dX12_narrow_10 : decode cX12_narrow 10 = .ok (.if_icmp .ge 71, 3) := by decide +kernel
theorem dX12_narrow_13 : decode cX12_narrow 13 = .ok (.iconst 0, 1) := by decide +kernel
theorem dX12_narrow_14 : decode cX12_narrow 14 = .ok (.istore_n 3, 1) := by decide +kernel
theorem dX12_narrow_15 : decode cX12_narrow 15 = .ok (.iload_n 3, 1) := by decide +kernel
theorem dX12_narrow_16 : decode cX12_narrow 16 = .ok (.bipush 120, 2) := by decide +kernel
theorem dX12_narrow_18 : decode cX12_narrow 18 = .ok (.if_icmp .ge 57, 3) := by decide +kernel
theorem dX12_narrow_21 : decode cX12_narrow 21 = .ok (.aload_n 0, 1) := by decide +kernel
theorem dX12_narrow_22 : decode cX12_narrow 22 = .ok (.getfield 152, 3) := by decide +kernel
theorem dX12_narrow_25 : decode cX12_narrow 25 = .ok (.bipush 120, 2) := by decide +kernel
theorem dX12_narrow_27 : decode cX12_narrow 27 = .ok (.iload_n 2, 1) := by decide +kernel
theorem dX12_narrow_28 : decode cX12_narrow 28 = .ok (.imul, 1) := by decide +kernel
theorem dX12_narrow_29 : decode cX12_narrow 29 = .ok (.iload_n 3, 1) := by decide +kernel
theorem dX12_narrow_30 : decode cX12_narrow 30 = .ok (.iadd, 1) := by decide +kernel
theorem dX12_narrow_31 : decode cX12_narrow 31 = .ok (.aload_n 0, 1) := by decide +kernel
theorem dX12_narrow_32 : decode cX12_narrow 32 = .ok (.getfield 146, 3) := by decide +kernel
theorem dX12_narrow_35 : decode cX12_narrow 35 = .ok (.iload_n 2, 1) := by decide +kernel
theorem dX12_narrow_36 : decode cX12_narrow 36 = .ok (.baload, 1) := by decide +kernel
theorem dX12_narrow_37 : decode cX12_narrow 37 = .ok (.ifCond .eq 30, 3) := by decide +kernel
theorem dX12_narrow_40 : decode cX12_narrow 40 = .ok (.aload_n 0, 1) := by decide +kernel
theorem dX12_narrow_41 : decode cX12_narrow 41 = .ok (.getfield 119, 3) := by decide +kernel
theorem dX12_narrow_44 : decode cX12_narrow 44 = .ok (.bipush 120, 2) := by decide +kernel
theorem dX12_narrow_46 : decode cX12_narrow 46 = .ok (.iload_n 2, 1) := by decide +kernel
theorem dX12_narrow_47 : decode cX12_narrow 47 = .ok (.imul, 1) := by decide +kernel
theorem dX12_narrow_48 : decode cX12_narrow 48 = .ok (.iload_n 3, 1) := by decide +kernel
theorem dX12_narrow_49 : decode cX12_narrow 49 = .ok (.iadd, 1) := by decide +kernel
theorem dX12_narrow_50 : decode cX12_narrow 50 = .ok (.baload, 1) := by decide +kernel
theorem dX12_narrow_51 : decode cX12_narrow 51 = .ok (.ifCond .eq 16, 3) := by decide +kernel
theorem dX12_narrow_54 : decode cX12_narrow 54 = .ok (.aload_n 0, 1) := by decide +kernel
theorem dX12_narrow_55 : decode cX12_narrow 55 = .ok (.iload_n 2, 1) := by decide +kernel
theorem dX12_narrow_56 : decode cX12_narrow 56 = .ok (.iload_n 3, 1) := by decide +kernel
theorem dX12_narrow_57 : decode cX12_narrow 57 = .ok (.invokevirtual 415, 3) := by decide +kernel
theorem dX12_narrow_60 : decode cX12_narrow 60 = .ok (.ifCond .eq 7, 3) := by decide +kernel
theorem dX12_narrow_63 : decode cX12_narrow 63 = .ok (.iconst 1, 1) := by decide +kernel
theorem dX12_narrow_64 : decode cX12_narrow 64 = .ok (.goto 4, 3) := by decide +kernel
theorem dX12_narrow_67 : decode cX12_narrow 67 = .ok (.iconst 0, 1) := by decide +kernel
theorem dX12_narrow_68 : decode cX12_narrow 68 = .ok (.bastore, 1) := by decide +kernel
theorem dX12_narrow_69 : decode cX12_narrow 69 = .ok (.iinc 3 1, 3) := by decide +kernel
theorem dX12_narrow_72 : decode cX12_narrow 72 = .ok (.goto (-57), 3) := by decide +kernel
theorem dX12_narrow_75 : decode cX12_narrow 75 = .ok (.iinc 2 1, 3) := by decide +kernel
theorem dX12_narrow_78 : decode cX12_narrow 78 = .ok (.goto (-71), 3) := by decide +kernel
theorem dX12_narrow_81 : decode cX12_narrow 81 = .ok (.iconst 1, 1) := by decide +kernel
theorem dX12_narrow_82 : decode cX12_narrow 82 = .ok (.istore_n 2, 1) := by decide +kernel
theorem dX12_narrow_83 : decode cX12_narrow 83 = .ok (.iload_n 2, 1) := by decide +kernel
theorem dX12_narrow_84 : decode cX12_narrow 84 = .ok (.ifCond .eq 83, 3) := by decide +kernel
theorem dX12_narrow_87 : decode cX12_narrow 87 = .ok (.iconst 0, 1) := by decide +kernel
theorem dX12_narrow_88 : decode cX12_narrow 88 = .ok (.istore_n 2, 1) := by decide +kernel
theorem dX12_narrow_89 : decode cX12_narrow 89 = .ok (.iconst 0, 1) := by decide +kernel
theorem dX12_narrow_90 : decode cX12_narrow 90 = .ok (.istore_n 3, 1) := by decide +kernel
theorem dX12_narrow_91 : decode cX12_narrow 91 = .ok (.iload_n 3, 1) := by decide +kernel
theorem dX12_narrow_92 : decode cX12_narrow 92 = .ok (.bipush 16, 2) := by decide +kernel
theorem dX12_narrow_94 : decode cX12_narrow 94 = .ok (.if_icmp .ge 70, 3) := by decide +kernel
theorem dX12_narrow_97 : decode cX12_narrow 97 = .ok (.iconst 0, 1) := by decide +kernel
theorem dX12_narrow_98 : decode cX12_narrow 98 = .ok (.istore 4, 2) := by decide +kernel
theorem dX12_narrow_100 : decode cX12_narrow 100 = .ok (.iload 4, 2) := by decide +kernel
theorem dX12_narrow_102 : decode cX12_narrow 102 = .ok (.aload_n 0, 1) := by decide +kernel
theorem dX12_narrow_103 : decode cX12_narrow 103 = .ok (.getfield 208, 3) := by decide +kernel
theorem dX12_narrow_106 : decode cX12_narrow 106 = .ok (.if_icmp .ge 52, 3) := by decide +kernel
theorem dX12_narrow_109 : decode cX12_narrow 109 = .ok (.aload_n 0, 1) := by decide +kernel
theorem dX12_narrow_110 : decode cX12_narrow 110 = .ok (.getfield 152, 3) := by decide +kernel
theorem dX12_narrow_113 : decode cX12_narrow 113 = .ok (.bipush 120, 2) := by decide +kernel
theorem dX12_narrow_115 : decode cX12_narrow 115 = .ok (.iload_n 3, 1) := by decide +kernel
theorem dX12_narrow_116 : decode cX12_narrow 116 = .ok (.imul, 1) := by decide +kernel
theorem dX12_narrow_117 : decode cX12_narrow 117 = .ok (.iload 4, 2) := by decide +kernel
theorem dX12_narrow_119 : decode cX12_narrow 119 = .ok (.iadd, 1) := by decide +kernel
theorem dX12_narrow_120 : decode cX12_narrow 120 = .ok (.baload, 1) := by decide +kernel
theorem dX12_narrow_121 : decode cX12_narrow 121 = .ok (.ifCond .eq 31, 3) := by decide +kernel
theorem dX12_narrow_124 : decode cX12_narrow 124 = .ok (.aload_n 0, 1) := by decide +kernel
theorem dX12_narrow_125 : decode cX12_narrow 125 = .ok (.iload_n 3, 1) := by decide +kernel
theorem dX12_narrow_126 : decode cX12_narrow 126 = .ok (.iload 4, 2) := by decide +kernel
theorem dX12_narrow_128 : decode cX12_narrow 128 = .ok (.invokevirtual 418, 3) := by decide +kernel
theorem dX12_narrow_131 : decode cX12_narrow 131 = .ok (.ifCond .eq 6, 3) := by decide +kernel
theorem dX12_narrow_134 : decode cX12_narrow 134 = .ok (.goto 18, 3) := by decide +kernel
theorem dX12_narrow_137 : decode cX12_narrow 137 = .ok (.aload_n 0, 1) := by decide +kernel
theorem dX12_narrow_138 : decode cX12_narrow 138 = .ok (.getfield 152, 3) := by decide +kernel
theorem dX12_narrow_141 : decode cX12_narrow 141 = .ok (.bipush 120, 2) := by decide +kernel
theorem dX12_narrow_143 : decode cX12_narrow 143 = .ok (.iload_n 3, 1) := by decide +kernel
theorem dX12_narrow_144 : decode cX12_narrow 144 = .ok (.imul, 1) := by decide +kernel
theorem dX12_narrow_145 : decode cX12_narrow 145 = .ok (.iload 4, 2) := by decide +kernel
theorem dX12_narrow_147 : decode cX12_narrow 147 = .ok (.iadd, 1) := by decide +kernel
theorem dX12_narrow_148 : decode cX12_narrow 148 = .ok (.iconst 0, 1) := by decide +kernel
theorem dX12_narrow_149 : decode cX12_narrow 149 = .ok (.bastore, 1) := by decide +kernel
theorem dX12_narrow_150 : decode cX12_narrow 150 = .ok (.iconst 1, 1) := by decide +kernel
theorem dX12_narrow_151 : decode cX12_narrow 151 = .ok (.istore_n 2, 1) := by decide +kernel
theorem dX12_narrow_152 : decode cX12_narrow 152 = .ok (.iinc 4 1, 3) := by decide +kernel
theorem dX12_narrow_155 : decode cX12_narrow 155 = .ok (.goto (-55), 3) := by decide +kernel
theorem dX12_narrow_158 : decode cX12_narrow 158 = .ok (.iinc 3 1, 3) := by decide +kernel
theorem dX12_narrow_161 : decode cX12_narrow 161 = .ok (.goto (-70), 3) := by decide +kernel
theorem dX12_narrow_164 : decode cX12_narrow 164 = .ok (.goto (-81), 3) := by decide +kernel
theorem dX12_narrow_167 : decode cX12_narrow 167 = .ok (.return_, 1) := by decide +kernel
def K_X12_narrow_7 (G : xG) (l : Launch) (d : Nat) (P : xMem → Prop) (v2 : Int) (μ : xMem) : Prop := RR G l d 0 0 false mX12_narrow (qV P) 7 [some (xr G 74), none, some (xi v2), none, none] [] LAY μ 0 0
def K_X12_narrow_83 (G : xG) (l : Launch) (d : Nat) (P : xMem → Prop) (v2 : Int) (μ : xMem) : Prop := RR G l d 0 0 false mX12_narrow (qV P) 83 [some (xr G 74), none, some (xi v2), none, none] [] LAY μ 0 0
def K_X12_narrow_15 (G : xG) (l : Launch) (d : Nat) (P : xMem → Prop) (v2 v3 : Int) (μ : xMem) : Prop := RR G l d 0 0 false mX12_narrow (qV P) 15 [some (xr G 74), none, some (xi v2), some (xi v3), none] [] LAY μ 0 0
def K_X12_narrow_91 (G : xG) (l : Launch) (d : Nat) (P : xMem → Prop) (v2 v3 : Int) (μ : xMem) : Prop := RR G l d 0 0 false mX12_narrow (qV P) 91 [some (xr G 74), none, some (xi v2), some (xi v3), none] [] LAY μ 0 0
def K_X12_narrow_100 (G : xG) (l : Launch) (d : Nat) (P : xMem → Prop) (v2 v3 v4 : Int) (μ : xMem) : Prop := RR G l d 0 0 false mX12_narrow (qV P) 100 [some (xr G 74), none, some (xi v2), some (xi v3), some (xi v4)] [] LAY μ 0 0
set_option maxRecDepth 20000 in
theorem E_X12_narrow {G : xG} {l : Launch} {d : Nat} {P : xMem → Prop} {v1 : Int} {μ : xMem} (h : CV G l d mX12_find [xr G 74, xi v1] μ (fun m2 => K_X12_narrow_7 G l (d + 1) P 0 m2)) : CV G l (d + 1) mX12_narrow [xr G 74, xi v1] μ P := by
  refine CC.ofRR (ll := [some (xr G 74), some (xi v1), none, none, none]) (by decide +kernel) (Nat.le_of_ble_eq_true rfl) rfl (fun h => by cases h) ?_
  refine xr_aload_n dX12_narrow_0 rfl ?_
  refine xr_iload_n dX12_narrow_1 rfl ?_
  refine xr_cvV (As := [xi v1]) dX12_narrow_2 mi_X12_find ml_X12_388 se_X12_find L_74 rfl rfl rfl (Nat.le_of_ble_eq_true rfl) h (fun m2 h => ?_)
  refine xr_iconst dX12_narrow_5 ?_
  refine xr_istore_n' (ll' := [some (xr G 74), some (xi v1), some (xi 0), none, none]) dX12_narrow_6 (by decide) rfl rfl ?_
  refine xr_wk (ll' := [some (xr G 74), none, some (xi 0), none, none]) ⟨rfl, ⟨rfl, trivial⟩⟩ ?_
  exact h
set_option maxRecDepth 20000 in
theorem B_X12_narrow_7 {G : xG} {l : Launch} {d : Nat} {P : xMem → Prop} {v2 : Int} {μ : xMem} (h : (iR v2 ∧ (16 ≤ v2 → K_X12_narrow_83 G l (d + 1) P 1 μ) ∧ (v2 < 16 → K_X12_narrow_15 G l (d + 1) P v2 0 μ))) : K_X12_narrow_7 G l (d + 1) P v2 μ := by
  unfold K_X12_narrow_7
  refine xr_iload_n dX12_narrow_7 rfl ?_
  refine xr_bipush dX12_narrow_8 (by decide) ?_
  obtain ⟨q1, hT2, hF3⟩ := h
  refine xr_icmp_ge (tgt := 81) dX12_narrow_10 (by decide) q1 (by decide) (fun c => ?_) (fun c => ?_)
  · have h := hT2 c
    refine xr_iconst dX12_narrow_81 ?_
    refine xr_istore_n' (ll' := [some (xr G 74), none, some (xi 1), none, none]) dX12_narrow_82 (by decide) rfl rfl ?_
    exact h
  · have h := hF3 (Int.not_le.mp c)
    refine xr_iconst dX12_narrow_13 ?_
    refine xr_istore_n' (ll' := [some (xr G 74), none, some (xi v2), some (xi 0), none]) dX12_narrow_14 (by decide) rfl rfl ?_
    exact h
set_option maxRecDepth 20000 in
theorem B_X12_narrow_83 {G : xG} {l : Launch} {d : Nat} {P : xMem → Prop} {v2 : Int} {μ : xMem} (h : (iR v2 ∧ (v2 = 0 → P μ) ∧ (v2 ≠ 0 → K_X12_narrow_91 G l (d + 1) P 0 0 μ))) : K_X12_narrow_83 G l (d + 1) P v2 μ := by
  unfold K_X12_narrow_83
  refine xr_iload_n dX12_narrow_83 rfl ?_
  obtain ⟨q1, hT2, hF3⟩ := h
  refine xr_if_eq (tgt := 167) dX12_narrow_84 (by decide) q1  (fun c => ?_) (fun c => ?_)
  · have h := hT2 c
    exact xr_ret dX12_narrow_167 rfl ⟨rfl, rfl, h⟩
  · have h := hF3 c
    refine xr_iconst dX12_narrow_87 ?_
    refine xr_istore_n' (ll' := [some (xr G 74), none, some (xi 0), none, none]) dX12_narrow_88 (by decide) rfl rfl ?_
    refine xr_iconst dX12_narrow_89 ?_
    refine xr_istore_n' (ll' := [some (xr G 74), none, some (xi 0), some (xi 0), none]) dX12_narrow_90 (by decide) rfl rfl ?_
    exact h
set_option maxRecDepth 20000 in
theorem B_X12_narrow_15 {G : xG} {l : Launch} {d : Nat} {P : xMem → Prop} {v2 v3 : Int} {μ : xMem} (h : (iR v3 ∧ (120 ≤ v3 → K_X12_narrow_7 G l (d + 1) P (v2 + 1) μ) ∧ (v3 < 120 → ((0 ≤ v2 ∧ v2 < 16) ∧ (iR (μ 117 v2) ∧ ((μ 117 v2) = 0 → ((0 ≤ (120 * v2) + v3 ∧ (120 * v2) + v3 < 1920) ∧ K_X12_narrow_15 G l (d + 1) P v2 (v3 + 1) (st2 μ 119 ((120 * v2) + v3) 0))) ∧ ((μ 117 v2) ≠ 0 → ((0 ≤ (120 * v2) + v3 ∧ (120 * v2) + v3 < 1920) ∧ (iR (μ 108 ((120 * v2) + v3)) ∧ ((μ 108 ((120 * v2) + v3)) = 0 → K_X12_narrow_15 G l (d + 1) P v2 (v3 + 1) (st2 μ 119 ((120 * v2) + v3) 0)) ∧ ((μ 108 ((120 * v2) + v3)) ≠ 0 → CI G l d mX12_agrees [xr G 74, xi v2, xi v3] μ (fun r13 m14 => ((r13 = 0 → K_X12_narrow_15 G l (d + 1) P v2 (v3 + 1) (st2 m14 119 ((120 * v2) + v3) 0)) ∧ (r13 ≠ 0 → K_X12_narrow_15 G l (d + 1) P v2 (v3 + 1) (st2 m14 119 ((120 * v2) + v3) 1))))))))))))) : K_X12_narrow_15 G l (d + 1) P v2 v3 μ := by
  unfold K_X12_narrow_15
  refine xr_iload_n dX12_narrow_15 rfl ?_
  refine xr_bipush dX12_narrow_16 (by decide) ?_
  obtain ⟨q1, hT2, hF3⟩ := h
  refine xr_icmp_ge (tgt := 75) dX12_narrow_18 (by decide) q1 (by decide) (fun c => ?_) (fun c => ?_)
  · have h := hT2 c
    refine xr_iinc' (ll' := [some (xr G 74), none, some (xi (v2 + 1)), some (xi v3), none]) dX12_narrow_75 rfl (by decide) rfl rfl ?_
    refine xr_goto (tgt := 7) dX12_narrow_78 (by decide) ?_
    refine xr_wk (ll' := [some (xr G 74), none, some (xi (v2 + 1)), none, none]) ⟨rfl, ⟨rfl, trivial⟩⟩ ?_
    exact h
  · have h := hF3 (Int.not_le.mp c)
    refine xr_aload_n dX12_narrow_21 rfl ?_
    refine xr_getR dX12_narrow_22 fl_X12_152 L_74 rfl ?_
    refine xr_bipush dX12_narrow_25 (by decide) ?_
    refine xr_iload_n dX12_narrow_27 rfl ?_
    refine xr_imul dX12_narrow_28 ?_
    refine xr_iload_n dX12_narrow_29 rfl ?_
    refine xr_iadd dX12_narrow_30 ?_
    refine xr_aload_n dX12_narrow_31 rfl ?_
    refine xr_getR dX12_narrow_32 fl_X12_146 L_74 rfl ?_
    refine xr_iload_n dX12_narrow_35 rfl ?_
    obtain ⟨q4, h⟩ := h
    refine xr_zaload' (v := μ 117 v2) dX12_narrow_36 L_117 rfl (by decide) q4 rfl ?_
    obtain ⟨q5, hT6, hF7⟩ := h
    refine xr_if_eq (tgt := 67) dX12_narrow_37 (by decide) q5  (fun c => ?_) (fun c => ?_)
    · have h := hT6 c
      refine xr_iconst dX12_narrow_67 ?_
      obtain ⟨q8, h⟩ := h
      refine xr_zastore dX12_narrow_68 L_119 rfl (by decide) q8 (by decide) ?_
      refine xr_iinc' (ll' := [some (xr G 74), none, some (xi v2), some (xi (v3 + 1)), none]) dX12_narrow_69 rfl (by decide) rfl rfl ?_
      refine xr_goto (tgt := 15) dX12_narrow_72 (by decide) ?_
      exact h
    · have h := hF7 c
      refine xr_aload_n dX12_narrow_40 rfl ?_
      refine xr_getR dX12_narrow_41 fl_X12_119 L_74 rfl ?_
      refine xr_bipush dX12_narrow_44 (by decide) ?_
      refine xr_iload_n dX12_narrow_46 rfl ?_
      refine xr_imul dX12_narrow_47 ?_
      refine xr_iload_n dX12_narrow_48 rfl ?_
      refine xr_iadd dX12_narrow_49 ?_
      obtain ⟨q9, h⟩ := h
      refine xr_zaload' (v := μ 108 ((120 * v2) + v3)) dX12_narrow_50 L_108 rfl (by decide) q9 rfl ?_
      obtain ⟨q10, hT11, hF12⟩ := h
      refine xr_if_eq (tgt := 67) dX12_narrow_51 (by decide) q10  (fun c => ?_) (fun c => ?_)
      · have h := hT11 c
        refine xr_iconst dX12_narrow_67 ?_
        refine xr_zastore dX12_narrow_68 L_119 rfl (by decide) q9 (by decide) ?_
        refine xr_iinc' (ll' := [some (xr G 74), none, some (xi v2), some (xi (v3 + 1)), none]) dX12_narrow_69 rfl (by decide) rfl rfl ?_
        refine xr_goto (tgt := 15) dX12_narrow_72 (by decide) ?_
        exact h
      · have h := hF12 c
        refine xr_aload_n dX12_narrow_54 rfl ?_
        refine xr_iload_n dX12_narrow_55 rfl ?_
        refine xr_iload_n dX12_narrow_56 rfl ?_
        refine xr_cvI (As := [xi v2, xi v3]) dX12_narrow_57 mi_X12_agrees ml_X12_415 se_X12_agrees L_74 rfl rfl rfl (Nat.le_of_ble_eq_true rfl) h (fun r13 m14 hr13 h => ?_)
        obtain ⟨hT15, hF16⟩ := h
        refine xr_if_eq (tgt := 67) dX12_narrow_60 (by decide) hr13  (fun c => ?_) (fun c => ?_)
        · have h := hT15 c
          refine xr_iconst dX12_narrow_67 ?_
          refine xr_zastore dX12_narrow_68 L_119 rfl (by decide) q9 (by decide) ?_
          refine xr_iinc' (ll' := [some (xr G 74), none, some (xi v2), some (xi (v3 + 1)), none]) dX12_narrow_69 rfl (by decide) rfl rfl ?_
          refine xr_goto (tgt := 15) dX12_narrow_72 (by decide) ?_
          exact h
        · have h := hF16 c
          refine xr_iconst dX12_narrow_63 ?_
          refine xr_goto (tgt := 68) dX12_narrow_64 (by decide) ?_
          refine xr_zastore dX12_narrow_68 L_119 rfl (by decide) q9 (by decide) ?_
          refine xr_iinc' (ll' := [some (xr G 74), none, some (xi v2), some (xi (v3 + 1)), none]) dX12_narrow_69 rfl (by decide) rfl rfl ?_
          refine xr_goto (tgt := 15) dX12_narrow_72 (by decide) ?_
          exact h
set_option maxRecDepth 20000 in
theorem B_X12_narrow_91 {G : xG} {l : Launch} {d : Nat} {P : xMem → Prop} {v2 v3 : Int} {μ : xMem} (h : (iR v3 ∧ (16 ≤ v3 → K_X12_narrow_83 G l (d + 1) P v2 μ) ∧ (v3 < 16 → K_X12_narrow_100 G l (d + 1) P v2 v3 0 μ))) : K_X12_narrow_91 G l (d + 1) P v2 v3 μ := by
  unfold K_X12_narrow_91
  refine xr_iload_n dX12_narrow_91 rfl ?_
  refine xr_bipush dX12_narrow_92 (by decide) ?_
  obtain ⟨q1, hT2, hF3⟩ := h
  refine xr_icmp_ge (tgt := 164) dX12_narrow_94 (by decide) q1 (by decide) (fun c => ?_) (fun c => ?_)
  · have h := hT2 c
    refine xr_goto (tgt := 83) dX12_narrow_164 (by decide) ?_
    refine xr_wk (ll' := [some (xr G 74), none, some (xi v2), none, none]) ⟨rfl, ⟨rfl, trivial⟩⟩ ?_
    exact h
  · have h := hF3 (Int.not_le.mp c)
    refine xr_iconst dX12_narrow_97 ?_
    refine xr_istore' (ll' := [some (xr G 74), none, some (xi v2), some (xi v3), some (xi 0)]) dX12_narrow_98 (by decide) rfl rfl ?_
    exact h
set_option maxRecDepth 20000 in
theorem B_X12_narrow_100 {G : xG} {l : Launch} {d : Nat} {P : xMem → Prop} {v2 v3 v4 : Int} {μ : xMem} (h : (iR v4 ∧ iR (μ 74 20) ∧ ((μ 74 20) ≤ v4 → K_X12_narrow_91 G l (d + 1) P v2 (v3 + 1) μ) ∧ (v4 < (μ 74 20) → ((0 ≤ (120 * v3) + v4 ∧ (120 * v3) + v4 < 1920) ∧ (iR (μ 119 ((120 * v3) + v4)) ∧ ((μ 119 ((120 * v3) + v4)) = 0 → K_X12_narrow_100 G l (d + 1) P v2 v3 (v4 + 1) μ) ∧ ((μ 119 ((120 * v3) + v4)) ≠ 0 → CI G l d mX12_isBorne [xr G 74, xi v3, xi v4] μ (fun r9 m10 => ((r9 = 0 → K_X12_narrow_100 G l (d + 1) P 1 v3 (v4 + 1) (st2 m10 119 ((120 * v3) + v4) 0)) ∧ (r9 ≠ 0 → K_X12_narrow_100 G l (d + 1) P v2 v3 (v4 + 1) m10))))))))) : K_X12_narrow_100 G l (d + 1) P v2 v3 v4 μ := by
  unfold K_X12_narrow_100
  refine xr_iload dX12_narrow_100 rfl ?_
  refine xr_aload_n dX12_narrow_102 rfl ?_
  refine xr_getI' (v := μ 74 20) dX12_narrow_103 fl_X12_208 L_74 rfl rfl rfl ?_
  obtain ⟨q1, q2, hT3, hF4⟩ := h
  refine xr_icmp_ge (tgt := 158) dX12_narrow_106 (by decide) q1 q2 (fun c => ?_) (fun c => ?_)
  · have h := hT3 c
    refine xr_iinc' (ll' := [some (xr G 74), none, some (xi v2), some (xi (v3 + 1)), some (xi v4)]) dX12_narrow_158 rfl (by decide) rfl rfl ?_
    refine xr_goto (tgt := 91) dX12_narrow_161 (by decide) ?_
    refine xr_wk (ll' := [some (xr G 74), none, some (xi v2), some (xi (v3 + 1)), none]) ⟨rfl, ⟨rfl, ⟨rfl, trivial⟩⟩⟩ ?_
    exact h
  · have h := hF4 (Int.not_le.mp c)
    refine xr_aload_n dX12_narrow_109 rfl ?_
    refine xr_getR dX12_narrow_110 fl_X12_152 L_74 rfl ?_
    refine xr_bipush dX12_narrow_113 (by decide) ?_
    refine xr_iload_n dX12_narrow_115 rfl ?_
    refine xr_imul dX12_narrow_116 ?_
    refine xr_iload dX12_narrow_117 rfl ?_
    refine xr_iadd dX12_narrow_119 ?_
    obtain ⟨q5, h⟩ := h
    refine xr_zaload' (v := μ 119 ((120 * v3) + v4)) dX12_narrow_120 L_119 rfl (by decide) q5 rfl ?_
    obtain ⟨q6, hT7, hF8⟩ := h
    refine xr_if_eq (tgt := 152) dX12_narrow_121 (by decide) q6  (fun c => ?_) (fun c => ?_)
    · have h := hT7 c
      refine xr_iinc' (ll' := [some (xr G 74), none, some (xi v2), some (xi v3), some (xi (v4 + 1))]) dX12_narrow_152 rfl (by decide) rfl rfl ?_
      refine xr_goto (tgt := 100) dX12_narrow_155 (by decide) ?_
      exact h
    · have h := hF8 c
      refine xr_aload_n dX12_narrow_124 rfl ?_
      refine xr_iload_n dX12_narrow_125 rfl ?_
      refine xr_iload dX12_narrow_126 rfl ?_
      refine xr_cvI (As := [xi v3, xi v4]) dX12_narrow_128 mi_X12_isBorne ml_X12_418 se_X12_isBorne L_74 rfl rfl rfl (Nat.le_of_ble_eq_true rfl) h (fun r9 m10 hr9 h => ?_)
      obtain ⟨hT11, hF12⟩ := h
      refine xr_if_eq (tgt := 137) dX12_narrow_131 (by decide) hr9  (fun c => ?_) (fun c => ?_)
      · have h := hT11 c
        refine xr_aload_n dX12_narrow_137 rfl ?_
        refine xr_getR dX12_narrow_138 fl_X12_152 L_74 rfl ?_
        refine xr_bipush dX12_narrow_141 (by decide) ?_
        refine xr_iload_n dX12_narrow_143 rfl ?_
        refine xr_imul dX12_narrow_144 ?_
        refine xr_iload dX12_narrow_145 rfl ?_
        refine xr_iadd dX12_narrow_147 ?_
        refine xr_iconst dX12_narrow_148 ?_
        refine xr_zastore dX12_narrow_149 L_119 rfl (by decide) q5 (by decide) ?_
        refine xr_iconst dX12_narrow_150 ?_
        refine xr_istore_n' (ll' := [some (xr G 74), none, some (xi 1), some (xi v3), some (xi v4)]) dX12_narrow_151 (by decide) rfl rfl ?_
        refine xr_iinc' (ll' := [some (xr G 74), none, some (xi 1), some (xi v3), some (xi (v4 + 1))]) dX12_narrow_152 rfl (by decide) rfl rfl ?_
        refine xr_goto (tgt := 100) dX12_narrow_155 (by decide) ?_
        exact h
      · have h := hF12 c
        refine xr_goto (tgt := 152) dX12_narrow_134 (by decide) ?_
        refine xr_iinc' (ll' := [some (xr G 74), none, some (xi v2), some (xi v3), some (xi (v4 + 1))]) dX12_narrow_152 rfl (by decide) rfl rfl ?_
        refine xr_goto (tgt := 100) dX12_narrow_155 (by decide) ?_
        exact h
theorem dX12_leftOf_0 : decode cX12_leftOf 0 = .ok (.iconst 0, 1) := by decide +kernel
theorem dX12_leftOf_1 : decode cX12_leftOf 1 = .ok (.istore_n 2, 1) := by decide +kernel
theorem dX12_leftOf_2 : decode cX12_leftOf 2 = .ok (.iconst 0, 1) := by decide +kernel
theorem dX12_leftOf_3 : decode cX12_leftOf 3 = .ok (.istore_n 3, 1) := by decide +kernel
theorem dX12_leftOf_4 : decode cX12_leftOf 4 = .ok (.iload_n 3, 1) := by decide +kernel
theorem dX12_leftOf_5 : decode cX12_leftOf 5 = .ok (.aload_n 0, 1) := by decide +kernel
theorem dX12_leftOf_6 : decode cX12_leftOf 6 = .ok (.getfield 208, 3) := by decide +kernel
theorem dX12_leftOf_9 : decode cX12_leftOf 9 = .ok (.if_icmp .ge 31, 3) := by decide +kernel
theorem dX12_leftOf_12 : decode cX12_leftOf 12 = .ok (.iload_n 2, 1) := by decide +kernel
theorem dX12_leftOf_13 : decode cX12_leftOf 13 = .ok (.aload_n 0, 1) := by decide +kernel
theorem dX12_leftOf_14 : decode cX12_leftOf 14 = .ok (.getfield 152, 3) := by decide +kernel
theorem dX12_leftOf_17 : decode cX12_leftOf 17 = .ok (.bipush 120, 2) := by decide +kernel
theorem dX12_leftOf_19 : decode cX12_leftOf 19 = .ok (.iload_n 1, 1) := by decide +kernel
theorem dX12_leftOf_20 : decode cX12_leftOf 20 = .ok (.imul, 1) := by decide +kernel
theorem dX12_leftOf_21 : decode cX12_leftOf 21 = .ok (.iload_n 3, 1) := by decide +kernel
theorem dX12_leftOf_22 : decode cX12_leftOf 22 = .ok (.iadd, 1) := by decide +kernel
theorem dX12_leftOf_23 : decode cX12_leftOf 23 = .ok (.baload, 1) := by decide +kernel
theorem dX12_leftOf_24 : decode cX12_leftOf 24 = .ok (.ifCond .eq 7, 3) := by decide +kernel
theorem dX12_leftOf_27 : decode cX12_leftOf 27 = .ok (.iconst 1, 1) := by decide +kernel
theorem dX12_leftOf_28 : decode cX12_leftOf 28 = .ok (.goto 4, 3) := by decide +kernel
theorem dX12_leftOf_31 : decode cX12_leftOf 31 = .ok (.iconst 0, 1) := by decide +kernel
theorem dX12_leftOf_32 : decode cX12_leftOf 32 = .ok (.iadd, 1) := by decide +kernel
theorem dX12_leftOf_33 : decode cX12_leftOf 33 = .ok (.istore_n 2, 1) := by decide +kernel
theorem dX12_leftOf_34 : decode cX12_leftOf 34 = .ok (.iinc 3 1, 3) := by decide +kernel
theorem dX12_leftOf_37 : decode cX12_leftOf 37 = .ok (.goto (-33), 3) := by decide +kernel
theorem dX12_leftOf_40 : decode cX12_leftOf 40 = .ok (.iload_n 2, 1) := by decide +kernel
theorem dX12_leftOf_41 : decode cX12_leftOf 41 = .ok (.ireturn, 1) := by decide +kernel
def K_X12_leftOf_4 (G : xG) (l : Launch) (d : Nat) (P : Int → xMem → Prop) (v1 v2 v3 : Int) (μ : xMem) : Prop := RR G l d 0 0 false mX12_leftOf (qI P) 4 [some (xr G 74), some (xi v1), some (xi v2), some (xi v3)] [] LAY μ 0 0
set_option maxRecDepth 20000 in
theorem E_X12_leftOf {G : xG} {l : Launch} {d : Nat} {P : Int → xMem → Prop} {v1 : Int} {μ : xMem} (h : K_X12_leftOf_4 G l (d + 1) P v1 0 0 μ) : CI G l (d + 1) mX12_leftOf [xr G 74, xi v1] μ P := by
  refine CC.ofRR (ll := [some (xr G 74), some (xi v1), none, none]) (by decide +kernel) (Nat.le_of_ble_eq_true rfl) rfl (fun h => by cases h) ?_
  refine xr_iconst dX12_leftOf_0 ?_
  refine xr_istore_n' (ll' := [some (xr G 74), some (xi v1), some (xi 0), none]) dX12_leftOf_1 (by decide) rfl rfl ?_
  refine xr_iconst dX12_leftOf_2 ?_
  refine xr_istore_n' (ll' := [some (xr G 74), some (xi v1), some (xi 0), some (xi 0)]) dX12_leftOf_3 (by decide) rfl rfl ?_
  exact h
set_option maxRecDepth 20000 in
theorem B_X12_leftOf_4 {G : xG} {l : Launch} {d : Nat} {P : Int → xMem → Prop} {v1 v2 v3 : Int} {μ : xMem} (h : (iR v3 ∧ iR (μ 74 20) ∧ ((μ 74 20) ≤ v3 → (iR v2 ∧ P v2 μ)) ∧ (v3 < (μ 74 20) → ((0 ≤ (120 * v1) + v3 ∧ (120 * v1) + v3 < 1920) ∧ (iR (μ 119 ((120 * v1) + v3)) ∧ ((μ 119 ((120 * v1) + v3)) = 0 → K_X12_leftOf_4 G l (d + 1) P v1 (v2 + 0) (v3 + 1) μ) ∧ ((μ 119 ((120 * v1) + v3)) ≠ 0 → K_X12_leftOf_4 G l (d + 1) P v1 (v2 + 1) (v3 + 1) μ)))))) : K_X12_leftOf_4 G l (d + 1) P v1 v2 v3 μ := by
  unfold K_X12_leftOf_4
  refine xr_iload_n dX12_leftOf_4 rfl ?_
  refine xr_aload_n dX12_leftOf_5 rfl ?_
  refine xr_getI' (v := μ 74 20) dX12_leftOf_6 fl_X12_208 L_74 rfl rfl rfl ?_
  obtain ⟨q1, q2, hT3, hF4⟩ := h
  refine xr_icmp_ge (tgt := 40) dX12_leftOf_9 (by decide) q1 q2 (fun c => ?_) (fun c => ?_)
  · have h := hT3 c
    refine xr_iload_n dX12_leftOf_40 rfl ?_
    obtain ⟨q5, h⟩ := h
    exact xr_iret dX12_leftOf_41 rfl ⟨rfl, _, rfl, q5, h⟩
  · have h := hF4 (Int.not_le.mp c)
    refine xr_iload_n dX12_leftOf_12 rfl ?_
    refine xr_aload_n dX12_leftOf_13 rfl ?_
    refine xr_getR dX12_leftOf_14 fl_X12_152 L_74 rfl ?_
    refine xr_bipush dX12_leftOf_17 (by decide) ?_
    refine xr_iload_n dX12_leftOf_19 rfl ?_
    refine xr_imul dX12_leftOf_20 ?_
    refine xr_iload_n dX12_leftOf_21 rfl ?_
    refine xr_iadd dX12_leftOf_22 ?_
    obtain ⟨q6, h⟩ := h
    refine xr_zaload' (v := μ 119 ((120 * v1) + v3)) dX12_leftOf_23 L_119 rfl (by decide) q6 rfl ?_
    obtain ⟨q7, hT8, hF9⟩ := h
    refine xr_if_eq (tgt := 31) dX12_leftOf_24 (by decide) q7  (fun c => ?_) (fun c => ?_)
    · have h := hT8 c
      refine xr_iconst dX12_leftOf_31 ?_
      refine xr_iadd dX12_leftOf_32 ?_
      refine xr_istore_n' (ll' := [some (xr G 74), some (xi v1), some (xi (v2 + 0)), some (xi v3)]) dX12_leftOf_33 (by decide) rfl rfl ?_
      refine xr_iinc' (ll' := [some (xr G 74), some (xi v1), some (xi (v2 + 0)), some (xi (v3 + 1))]) dX12_leftOf_34 rfl (by decide) rfl rfl ?_
      refine xr_goto (tgt := 4) dX12_leftOf_37 (by decide) ?_
      exact h
    · have h := hF9 c
      refine xr_iconst dX12_leftOf_27 ?_
      refine xr_goto (tgt := 32) dX12_leftOf_28 (by decide) ?_
      refine xr_iadd dX12_leftOf_32 ?_
      refine xr_istore_n' (ll' := [some (xr G 74), some (xi v1), some (xi (v2 + 1)), some (xi v3)]) dX12_leftOf_33 (by decide) rfl rfl ?_
      refine xr_iinc' (ll' := [some (xr G 74), some (xi v1), some (xi (v2 + 1)), some (xi (v3 + 1))]) dX12_leftOf_34 rfl (by decide) rfl rfl ?_
      refine xr_goto (tgt := 4) dX12_leftOf_37 (by decide) ?_
      exact h
theorem dX12_left_0 : decode cX12_left 0 = .ok (.aload_n 0, 1) := by decide +kernel
theorem dX12_left_1 : decode cX12_left 1 = .ok (.iconst 0, 1) := by decide +kernel
theorem dX12_left_2 : decode cX12_left 2 = .ok (.putfield 185, 3) := by decide +kernel
theorem dX12_left_5 : decode cX12_left 5 = .ok (.aload_n 0, 1) := by decide +kernel
theorem dX12_left_6 : decode cX12_left 6 = .ok (.iload_n 1, 1) := by decide +kernel
theorem dX12_left_7 : decode cX12_left 7 = .ok (.invokevirtual 394, 3) := by decide +kernel
theorem dX12_left_10 : decode cX12_left 10 = .ok (.ifCond .ne 5, 3) := by decide +kernel
theorem dX12_left_13 : decode cX12_left 13 = .ok (.iconst (-1), 1) := by decide +kernel
theorem dX12_left_14 : decode cX12_left 14 = .ok (.ireturn, 1) := by decide +kernel
theorem dX12_left_15 : decode cX12_left 15 = .ok (.aload_n 0, 1) := by decide +kernel
theorem dX12_left_16 : decode cX12_left 16 = .ok (.iload_n 2, 1) := by decide +kernel
theorem dX12_left_17 : decode cX12_left 17 = .ok (.invokevirtual 421, 3) := by decide +kernel
theorem dX12_left_20 : decode cX12_left 20 = .ok (.aload_n 0, 1) := by decide +kernel
theorem dX12_left_21 : decode cX12_left 21 = .ok (.iload_n 1, 1) := by decide +kernel
theorem dX12_left_22 : decode cX12_left 22 = .ok (.invokevirtual 424, 3) := by decide +kernel
theorem dX12_left_25 : decode cX12_left 25 = .ok (.ireturn, 1) := by decide +kernel
set_option maxRecDepth 20000 in
theorem E_X12_left {G : xG} {l : Launch} {d : Nat} {P : Int → xMem → Prop} {v1 v2 : Int} {μ : xMem} (h : CI G l d mX12_isLight [xr G 74, xi v1] (st2 μ 74 0 0) (fun r1 m2 => ((r1 ≠ 0 → CV G l d mX12_narrow [xr G 74, xi v2] m2 (fun m6 => CI G l d mX12_leftOf [xr G 74, xi v1] m6 (fun r7 m8 => P r7 m8))) ∧ (r1 = 0 → P (-1) m2)))) : CI G l (d + 1) mX12_left [xr G 74, xi v1, xi v2] μ P := by
  refine CC.ofRR (ll := [some (xr G 74), some (xi v1), some (xi v2)]) (by decide +kernel) (Nat.le_of_ble_eq_true rfl) rfl (fun h => by cases h) ?_
  refine xr_aload_n dX12_left_0 rfl ?_
  refine xr_iconst dX12_left_1 ?_
  refine xr_putI dX12_left_2 fp_X12_185 L_74 rfl rfl ⟨rfl, rfl⟩ ?_
  refine xr_aload_n dX12_left_5 rfl ?_
  refine xr_iload_n dX12_left_6 rfl ?_
  refine xr_cvI (As := [xi v1]) dX12_left_7 mi_X12_isLight ml_X12_394 se_X12_isLight L_74 rfl rfl rfl (Nat.le_of_ble_eq_true rfl) h (fun r1 m2 hr1 h => ?_)
  obtain ⟨hT3, hF4⟩ := h
  refine xr_if_ne (tgt := 15) dX12_left_10 (by decide) hr1  (fun c => ?_) (fun c => ?_)
  · have h := hT3 c
    refine xr_aload_n dX12_left_15 rfl ?_
    refine xr_iload_n dX12_left_16 rfl ?_
    refine xr_cvV (As := [xi v2]) dX12_left_17 mi_X12_narrow ml_X12_421 se_X12_narrow L_74 rfl rfl rfl (Nat.le_of_ble_eq_true rfl) h (fun m6 h => ?_)
    refine xr_aload_n dX12_left_20 rfl ?_
    refine xr_iload_n dX12_left_21 rfl ?_
    refine xr_cvI (As := [xi v1]) dX12_left_22 mi_X12_leftOf ml_X12_424 se_X12_leftOf L_74 rfl rfl rfl (Nat.le_of_ble_eq_true rfl) h (fun r7 m8 hr7 h => ?_)
    exact xr_iret dX12_left_25 rfl ⟨rfl, _, rfl, hr7, h⟩
  · have h := hF4 c
    refine xr_iconst dX12_left_13 ?_
    exact xr_iret dX12_left_14 rfl ⟨rfl, _, rfl, (by decide), h⟩
theorem dX12_isFull_0 : decode cX12_isFull 0 = .ok (.iconst 0, 1) := by decide +kernel
theorem dX12_isFull_1 : decode cX12_isFull 1 = .ok (.istore_n 2, 1) := by decide +kernel
theorem dX12_isFull_2 : decode cX12_isFull 2 = .ok (.iload_n 2, 1) := by decide +kernel
theorem dX12_isFull_3 : decode cX12_isFull 3 = .ok (.aload_n 0, 1) := by decide +kernel
theorem dX12_isFull_4 : decode cX12_isFull 4 = .ok (.getfield 53, 3) := by decide +kernel
theorem dX12_isFull_7 : decode cX12_isFull 7 = .ok (.iload_n 1, 1) := by decide +kernel
theorem dX12_isFull_8 : decode cX12_isFull 8 = .ok (.iaload, 1) := by decide +kernel
theorem dX12_isFull_9 : decode cX12_isFull 9 = .ok (.if_icmp .ge 25, 3) := by decide +kernel
theorem dX12_isFull_12 : decode cX12_isFull 12 = .ok (.aload_n 0, 1) := by decide +kernel
theorem dX12_isFull_13 : decode cX12_isFull 13 = .ok (.getfield 134, 3) := by decide +kernel
theorem dX12_isFull_16 : decode cX12_isFull 16 = .ok (.aload_n 0, 1) := by decide +kernel
theorem dX12_isFull_17 : decode cX12_isFull 17 = .ok (.iload_n 1, 1) := by decide +kernel
theorem dX12_isFull_18 : decode cX12_isFull 18 = .ok (.iload_n 2, 1) := by decide +kernel
theorem dX12_isFull_19 : decode cX12_isFull 19 = .ok (.invokevirtual 391, 3) := by decide +kernel
theorem dX12_isFull_22 : decode cX12_isFull 22 = .ok (.iaload, 1) := by decide +kernel
theorem dX12_isFull_23 : decode cX12_isFull 23 = .ok (.ifCond .ne 5, 3) := by decide +kernel
theorem dX12_isFull_26 : decode cX12_isFull 26 = .ok (.iconst 0, 1) := by decide +kernel
theorem dX12_isFull_27 : decode cX12_isFull 27 = .ok (.ireturn, 1) := by decide +kernel
theorem dX12_isFull_28 : decode cX12_isFull 28 = .ok (.iinc 2 1, 3) := by decide +kernel
theorem dX12_isFull_31 : decode cX12_isFull 31 = .ok (.goto (-29), 3) := by decide +kernel
theorem dX12_isFull_34 : decode cX12_isFull 34 = .ok (.iconst 1, 1) := by decide +kernel
theorem dX12_isFull_35 : decode cX12_isFull 35 = .ok (.ireturn, 1) := by decide +kernel
def K_X12_isFull_2 (G : xG) (l : Launch) (d : Nat) (P : Int → xMem → Prop) (v1 v2 : Int) (μ : xMem) : Prop := RR G l d 0 0 false mX12_isFull (qI P) 2 [some (xr G 74), some (xi v1), some (xi v2)] [] LAY μ 0 0
set_option maxRecDepth 20000 in
theorem E_X12_isFull {G : xG} {l : Launch} {d : Nat} {P : Int → xMem → Prop} {v1 : Int} {μ : xMem} (h : K_X12_isFull_2 G l (d + 1) P v1 0 μ) : CI G l (d + 1) mX12_isFull [xr G 74, xi v1] μ P := by
  refine CC.ofRR (ll := [some (xr G 74), some (xi v1), none]) (by decide +kernel) (Nat.le_of_ble_eq_true rfl) rfl (fun h => by cases h) ?_
  refine xr_iconst dX12_isFull_0 ?_
  refine xr_istore_n' (ll' := [some (xr G 74), some (xi v1), some (xi 0)]) dX12_isFull_1 (by decide) rfl rfl ?_
  exact h
set_option maxRecDepth 20000 in
theorem B_X12_isFull_2 {G : xG} {l : Launch} {d : Nat} {P : Int → xMem → Prop} {v1 v2 : Int} {μ : xMem} (h : ((0 ≤ v1 ∧ v1 < 16) ∧ (iR v2 ∧ iR (μ 89 v1) ∧ ((μ 89 v1) ≤ v2 → P 1 μ) ∧ (v2 < (μ 89 v1) → CI G l d mX12_cellOf [xr G 74, xi v1, xi v2] μ (fun r6 m7 => ((0 ≤ r6 ∧ r6 < 81) ∧ (iR (m7 113 r6) ∧ ((m7 113 r6) ≠ 0 → K_X12_isFull_2 G l (d + 1) P v1 (v2 + 1) m7) ∧ ((m7 113 r6) = 0 → P 0 m7)))))))) : K_X12_isFull_2 G l (d + 1) P v1 v2 μ := by
  unfold K_X12_isFull_2
  refine xr_iload_n dX12_isFull_2 rfl ?_
  refine xr_aload_n dX12_isFull_3 rfl ?_
  refine xr_getR dX12_isFull_4 fl_X12_53 L_74 rfl ?_
  refine xr_iload_n dX12_isFull_7 rfl ?_
  obtain ⟨q1, h⟩ := h
  refine xr_iaload' (v := μ 89 v1) dX12_isFull_8 L_89 rfl (by decide) q1 rfl ?_
  obtain ⟨q2, q3, hT4, hF5⟩ := h
  refine xr_icmp_ge (tgt := 34) dX12_isFull_9 (by decide) q2 q3 (fun c => ?_) (fun c => ?_)
  · have h := hT4 c
    refine xr_iconst dX12_isFull_34 ?_
    exact xr_zret dX12_isFull_35 rfl (x_nz (by decide)).1 ⟨rfl, _, rfl, x_01 (by decide), h⟩
  · have h := hF5 (Int.not_le.mp c)
    refine xr_aload_n dX12_isFull_12 rfl ?_
    refine xr_getR dX12_isFull_13 fl_X12_134 L_74 rfl ?_
    refine xr_aload_n dX12_isFull_16 rfl ?_
    refine xr_iload_n dX12_isFull_17 rfl ?_
    refine xr_iload_n dX12_isFull_18 rfl ?_
    refine xr_cvI (As := [xi v1, xi v2]) dX12_isFull_19 mi_X12_cellOf ml_X12_391 se_X12_cellOf L_74 rfl rfl rfl (Nat.le_of_ble_eq_true rfl) h (fun r6 m7 hr6 h => ?_)
    obtain ⟨q8, h⟩ := h
    refine xr_iaload' (v := m7 113 r6) dX12_isFull_22 L_113 rfl (by decide) q8 rfl ?_
    obtain ⟨q9, hT10, hF11⟩ := h
    refine xr_if_ne (tgt := 28) dX12_isFull_23 (by decide) q9  (fun c => ?_) (fun c => ?_)
    · have h := hT10 c
      refine xr_iinc' (ll' := [some (xr G 74), some (xi v1), some (xi (v2 + 1))]) dX12_isFull_28 rfl (by decide) rfl rfl ?_
      refine xr_goto (tgt := 2) dX12_isFull_31 (by decide) ?_
      exact h
    · have h := hF11 c
      refine xr_iconst dX12_isFull_26 ?_
      exact xr_zret dX12_isFull_27 rfl (x_nz (by decide)).1 ⟨rfl, _, rfl, x_01 (by decide), h⟩
theorem dX12_nextOf_0 : decode cX12_nextOf 0 = .ok (.aload_n 0, 1) := by decide +kernel
theorem dX12_nextOf_1 : decode cX12_nextOf 1 = .ok (.iload_n 1, 1) := by decide +kernel
theorem dX12_nextOf_2 : decode cX12_nextOf 2 = .ok (.invokevirtual 421, 3) := by decide +kernel
theorem dX12_nextOf_5 : decode cX12_nextOf 5 = .ok (.iconst 0, 1) := by decide +kernel
theorem dX12_nextOf_6 : decode cX12_nextOf 6 = .ok (.istore_n 2, 1) := by decide +kernel
theorem dX12_nextOf_7 : decode cX12_nextOf 7 = .ok (.iload_n 2, 1) := by decide +kernel
theorem dX12_nextOf_8 : decode cX12_nextOf 8 = .ok (.bipush 16, 2) := by decide +kernel
theorem dX12_nextOf_10 : decode cX12_nextOf 10 = .ok (.if_icmp .ge 37, 3) := by decide +kernel
theorem dX12_nextOf_13 : decode cX12_nextOf 13 = .ok (.aload_n 0, 1) := by decide +kernel
theorem dX12_nextOf_14 : decode cX12_nextOf 14 = .ok (.getfield 146, 3) := by decide +kernel
theorem dX12_nextOf_17 : decode cX12_nextOf 17 = .ok (.iload_n 2, 1) := by decide +kernel
theorem dX12_nextOf_18 : decode cX12_nextOf 18 = .ok (.baload, 1) := by decide +kernel
theorem dX12_nextOf_19 : decode cX12_nextOf 19 = .ok (.ifCond .eq 22, 3) := by decide +kernel
theorem dX12_nextOf_22 : decode cX12_nextOf 22 = .ok (.aload_n 0, 1) := by decide +kernel
theorem dX12_nextOf_23 : decode cX12_nextOf 23 = .ok (.iload_n 2, 1) := by decide +kernel
theorem dX12_nextOf_24 : decode cX12_nextOf 24 = .ok (.invokevirtual 424, 3) := by decide +kernel
theorem dX12_nextOf_27 : decode cX12_nextOf 27 = .ok (.iconst 1, 1) := by decide +kernel
theorem dX12_nextOf_28 : decode cX12_nextOf 28 = .ok (.if_icmp .ne 13, 3) := by decide +kernel
theorem dX12_nextOf_31 : decode cX12_nextOf 31 = .ok (.aload_n 0, 1) := by decide +kernel
theorem dX12_nextOf_32 : decode cX12_nextOf 32 = .ok (.iload_n 2, 1) := by decide +kernel
theorem dX12_nextOf_33 : decode cX12_nextOf 33 = .ok (.invokevirtual 428, 3) := by decide +kernel
theorem dX12_nextOf_36 : decode cX12_nextOf 36 = .ok (.ifCond .ne 5, 3) := by decide +kernel
theorem dX12_nextOf_39 : decode cX12_nextOf 39 = .ok (.iload_n 2, 1) := by decide +kernel
theorem dX12_nextOf_40 : decode cX12_nextOf 40 = .ok (.ireturn, 1) := by decide +kernel
theorem dX12_nextOf_41 : decode cX12_nextOf 41 = .ok (.iinc 2 1, 3) := by decide +kernel
theorem dX12_nextOf_44 : decode cX12_nextOf 44 = .ok (.goto (-37), 3) := by decide +kernel
theorem dX12_nextOf_47 : decode cX12_nextOf 47 = .ok (.iconst (-1), 1) := by decide +kernel
theorem dX12_nextOf_48 : decode cX12_nextOf 48 = .ok (.ireturn, 1) := by decide +kernel
def K_X12_nextOf_7 (G : xG) (l : Launch) (d : Nat) (P : Int → xMem → Prop) (v2 : Int) (μ : xMem) : Prop := RR G l d 0 0 false mX12_nextOf (qI P) 7 [some (xr G 74), none, some (xi v2)] [] LAY μ 0 0
set_option maxRecDepth 20000 in
theorem E_X12_nextOf {G : xG} {l : Launch} {d : Nat} {P : Int → xMem → Prop} {v1 : Int} {μ : xMem} (h : CV G l d mX12_narrow [xr G 74, xi v1] μ (fun m2 => K_X12_nextOf_7 G l (d + 1) P 0 m2)) : CI G l (d + 1) mX12_nextOf [xr G 74, xi v1] μ P := by
  refine CC.ofRR (ll := [some (xr G 74), some (xi v1), none]) (by decide +kernel) (Nat.le_of_ble_eq_true rfl) rfl (fun h => by cases h) ?_
  refine xr_aload_n dX12_nextOf_0 rfl ?_
  refine xr_iload_n dX12_nextOf_1 rfl ?_
  refine xr_cvV (As := [xi v1]) dX12_nextOf_2 mi_X12_narrow ml_X12_421 se_X12_narrow L_74 rfl rfl rfl (Nat.le_of_ble_eq_true rfl) h (fun m2 h => ?_)
  refine xr_iconst dX12_nextOf_5 ?_
  refine xr_istore_n' (ll' := [some (xr G 74), some (xi v1), some (xi 0)]) dX12_nextOf_6 (by decide) rfl rfl ?_
  refine xr_wk (ll' := [some (xr G 74), none, some (xi 0)]) ⟨rfl, ⟨rfl, trivial⟩⟩ ?_
  exact h
set_option maxRecDepth 20000 in
theorem B_X12_nextOf_7 {G : xG} {l : Launch} {d : Nat} {P : Int → xMem → Prop} {v2 : Int} {μ : xMem} (h : (iR v2 ∧ (16 ≤ v2 → P (-1) μ) ∧ (v2 < 16 → ((0 ≤ v2 ∧ v2 < 16) ∧ (iR (μ 117 v2) ∧ ((μ 117 v2) = 0 → K_X12_nextOf_7 G l (d + 1) P (v2 + 1) μ) ∧ ((μ 117 v2) ≠ 0 → CI G l d mX12_leftOf [xr G 74, xi v2] μ (fun r8 m9 => ((r8 ≠ 1 → K_X12_nextOf_7 G l (d + 1) P (v2 + 1) m9) ∧ (r8 = 1 → CI G l d mX12_isFull [xr G 74, xi v2] m9 (fun r12 m13 => ((r12 ≠ 0 → K_X12_nextOf_7 G l (d + 1) P (v2 + 1) m13) ∧ (r12 = 0 → P v2 m13)))))))))))) : K_X12_nextOf_7 G l (d + 1) P v2 μ := by
  unfold K_X12_nextOf_7
  refine xr_iload_n dX12_nextOf_7 rfl ?_
  refine xr_bipush dX12_nextOf_8 (by decide) ?_
  obtain ⟨q1, hT2, hF3⟩ := h
  refine xr_icmp_ge (tgt := 47) dX12_nextOf_10 (by decide) q1 (by decide) (fun c => ?_) (fun c => ?_)
  · have h := hT2 c
    refine xr_iconst dX12_nextOf_47 ?_
    exact xr_iret dX12_nextOf_48 rfl ⟨rfl, _, rfl, (by decide), h⟩
  · have h := hF3 (Int.not_le.mp c)
    refine xr_aload_n dX12_nextOf_13 rfl ?_
    refine xr_getR dX12_nextOf_14 fl_X12_146 L_74 rfl ?_
    refine xr_iload_n dX12_nextOf_17 rfl ?_
    obtain ⟨q4, h⟩ := h
    refine xr_zaload' (v := μ 117 v2) dX12_nextOf_18 L_117 rfl (by decide) q4 rfl ?_
    obtain ⟨q5, hT6, hF7⟩ := h
    refine xr_if_eq (tgt := 41) dX12_nextOf_19 (by decide) q5  (fun c => ?_) (fun c => ?_)
    · have h := hT6 c
      refine xr_iinc' (ll' := [some (xr G 74), none, some (xi (v2 + 1))]) dX12_nextOf_41 rfl (by decide) rfl rfl ?_
      refine xr_goto (tgt := 7) dX12_nextOf_44 (by decide) ?_
      exact h
    · have h := hF7 c
      refine xr_aload_n dX12_nextOf_22 rfl ?_
      refine xr_iload_n dX12_nextOf_23 rfl ?_
      refine xr_cvI (As := [xi v2]) dX12_nextOf_24 mi_X12_leftOf ml_X12_424 se_X12_leftOf L_74 rfl rfl rfl (Nat.le_of_ble_eq_true rfl) h (fun r8 m9 hr8 h => ?_)
      refine xr_iconst dX12_nextOf_27 ?_
      obtain ⟨hT10, hF11⟩ := h
      refine xr_icmp_ne (tgt := 41) dX12_nextOf_28 (by decide) hr8 (by decide) (fun c => ?_) (fun c => ?_)
      · have h := hT10 c
        refine xr_iinc' (ll' := [some (xr G 74), none, some (xi (v2 + 1))]) dX12_nextOf_41 rfl (by decide) rfl rfl ?_
        refine xr_goto (tgt := 7) dX12_nextOf_44 (by decide) ?_
        exact h
      · have h := hF11 c
        refine xr_aload_n dX12_nextOf_31 rfl ?_
        refine xr_iload_n dX12_nextOf_32 rfl ?_
        refine xr_cvI (As := [xi v2]) dX12_nextOf_33 mi_X12_isFull ml_X12_428 se_X12_isFull L_74 rfl rfl rfl (Nat.le_of_ble_eq_true rfl) h (fun r12 m13 hr12 h => ?_)
        obtain ⟨hT14, hF15⟩ := h
        refine xr_if_ne (tgt := 41) dX12_nextOf_36 (by decide) hr12  (fun c => ?_) (fun c => ?_)
        · have h := hT14 c
          refine xr_iinc' (ll' := [some (xr G 74), none, some (xi (v2 + 1))]) dX12_nextOf_41 rfl (by decide) rfl rfl ?_
          refine xr_goto (tgt := 7) dX12_nextOf_44 (by decide) ?_
          exact h
        · have h := hF15 c
          refine xr_iload_n dX12_nextOf_39 rfl ?_
          exact xr_iret dX12_nextOf_40 rfl ⟨rfl, _, rfl, q1, h⟩
theorem dX12_nextLight_0 : decode cX12_nextLight 0 = .ok (.aload_n 0, 1) := by decide +kernel
theorem dX12_nextLight_1 : decode cX12_nextLight 1 = .ok (.iconst 0, 1) := by decide +kernel
theorem dX12_nextLight_2 : decode cX12_nextLight 2 = .ok (.putfield 185, 3) := by decide +kernel
theorem dX12_nextLight_5 : decode cX12_nextLight 5 = .ok (.aload_n 0, 1) := by decide +kernel
theorem dX12_nextLight_6 : decode cX12_nextLight 6 = .ok (.iload_n 1, 1) := by decide +kernel
theorem dX12_nextLight_7 : decode cX12_nextLight 7 = .ok (.invokevirtual 431, 3) := by decide +kernel
theorem dX12_nextLight_10 : decode cX12_nextLight 10 = .ok (.ireturn, 1) := by decide +kernel
set_option maxRecDepth 20000 in
theorem E_X12_nextLight {G : xG} {l : Launch} {d : Nat} {P : Int → xMem → Prop} {v1 : Int} {μ : xMem} (h : CI G l d mX12_nextOf [xr G 74, xi v1] (st2 μ 74 0 0) (fun r1 m2 => P r1 m2)) : CI G l (d + 1) mX12_nextLight [xr G 74, xi v1] μ P := by
  refine CC.ofRR (ll := [some (xr G 74), some (xi v1)]) (by decide +kernel) (Nat.le_of_ble_eq_true rfl) rfl (fun h => by cases h) ?_
  refine xr_aload_n dX12_nextLight_0 rfl ?_
  refine xr_iconst dX12_nextLight_1 ?_
  refine xr_putI dX12_nextLight_2 fp_X12_185 L_74 rfl rfl ⟨rfl, rfl⟩ ?_
  refine xr_aload_n dX12_nextLight_5 rfl ?_
  refine xr_iload_n dX12_nextLight_6 rfl ?_
  refine xr_cvI (As := [xi v1]) dX12_nextLight_7 mi_X12_nextOf ml_X12_431 se_X12_nextOf L_74 rfl rfl rfl (Nat.le_of_ble_eq_true rfl) h (fun r1 m2 hr1 h => ?_)
  exact xr_iret dX12_nextLight_10 rfl ⟨rfl, _, rfl, hr1, h⟩
theorem dX12_solve_0 : decode cX12_solve 0 = .ok (.aload_n 0, 1) := by decide +kernel
theorem dX12_solve_1 : decode cX12_solve 1 = .ok (.iconst 0, 1) := by decide +kernel
theorem dX12_solve_2 : decode cX12_solve 2 = .ok (.putfield 185, 3) := by decide +kernel
theorem dX12_solve_5 : decode cX12_solve 5 = .ok (.iconst 0, 1) := by decide +kernel
theorem dX12_solve_6 : decode cX12_solve 6 = .ok (.istore_n 2, 1) := by decide +kernel
theorem dX12_solve_7 : decode cX12_solve 7 = .ok (.aload_n 0, 1) := by decide +kernel
theorem dX12_solve_8 : decode cX12_solve 8 = .ok (.iload_n 1, 1) := by decide +kernel
theorem dX12_solve_9 : decode cX12_solve 9 = .ok (.invokevirtual 431, 3) := by decide +kernel
theorem dX12_solve_12 : decode cX12_solve 12 = .ok (.istore_n 3, 1) := by decide +kernel
theorem dX12_solve_13 : decode cX12_solve 13 = .ok (.iload_n 3, 1) := by decide +kernel
theorem dX12_solve_14 : decode cX12_solve 14 = .ok (.ifCond .lt 82, 3) := by decide +kernel
theorem dX12_solve_17 : decode cX12_solve 17 = .ok (.iconst 0, 1) := by decide +kernel
theorem dX12_solve_18 : decode cX12_solve 18 = .ok (.istore 4, 2) := by decide +kernel
theorem dX12_solve_20 : decode cX12_solve 20 = .ok (.aload_n 0, 1) := by decide +kernel
theorem dX12_solve_21 : decode cX12_solve 21 = .ok (.getfield 152, 3) := by decide +kernel
theorem dX12_solve_24 : decode cX12_solve 24 = .ok (.bipush 120, 2) := by decide +kernel
theorem dX12_solve_26 : decode cX12_solve 26 = .ok (.iload_n 3, 1) := by decide +kernel
theorem dX12_solve_27 : decode cX12_solve 27 = .ok (.imul, 1) := by decide +kernel
theorem dX12_solve_28 : decode cX12_solve 28 = .ok (.iload 4, 2) := by decide +kernel
theorem dX12_solve_30 : decode cX12_solve 30 = .ok (.iadd, 1) := by decide +kernel
theorem dX12_solve_31 : decode cX12_solve 31 = .ok (.baload, 1) := by decide +kernel
theorem dX12_solve_32 : decode cX12_solve 32 = .ok (.ifCond .ne 9, 3) := by decide +kernel
theorem dX12_solve_35 : decode cX12_solve 35 = .ok (.iinc 4 1, 3) := by decide +kernel
theorem dX12_solve_38 : decode cX12_solve 38 = .ok (.goto (-18), 3) := by decide +kernel
theorem dX12_solve_41 : decode cX12_solve 41 = .ok (.iconst 0, 1) := by decide +kernel
theorem dX12_solve_42 : decode cX12_solve 42 = .ok (.istore 5, 2) := by decide +kernel
theorem dX12_solve_44 : decode cX12_solve 44 = .ok (.iload 5, 2) := by decide +kernel
theorem dX12_solve_46 : decode cX12_solve 46 = .ok (.aload_n 0, 1) := by decide +kernel
theorem dX12_solve_47 : decode cX12_solve 47 = .ok (.getfield 53, 3) := by decide +kernel
theorem dX12_solve_50 : decode cX12_solve 50 = .ok (.iload_n 3, 1) := by decide +kernel
theorem dX12_solve_51 : decode cX12_solve 51 = .ok (.iaload, 1) := by decide +kernel
theorem dX12_solve_52 : decode cX12_solve 52 = .ok (.if_icmp .ge 32, 3) := by decide +kernel
theorem dX12_solve_55 : decode cX12_solve 55 = .ok (.aload_n 0, 1) := by decide +kernel
theorem dX12_solve_56 : decode cX12_solve 56 = .ok (.getfield 134, 3) := by decide +kernel
theorem dX12_solve_59 : decode cX12_solve 59 = .ok (.aload_n 0, 1) := by decide +kernel
theorem dX12_solve_60 : decode cX12_solve 60 = .ok (.iload_n 3, 1) := by decide +kernel
theorem dX12_solve_61 : decode cX12_solve 61 = .ok (.iload 5, 2) := by decide +kernel
theorem dX12_solve_63 : decode cX12_solve 63 = .ok (.invokevirtual 391, 3) := by decide +kernel
theorem dX12_solve_66 : decode cX12_solve 66 = .ok (.aload_n 0, 1) := by decide +kernel
theorem dX12_solve_67 : decode cX12_solve 67 = .ok (.iload 4, 2) := by decide +kernel
theorem dX12_solve_69 : decode cX12_solve 69 = .ok (.iload 5, 2) := by decide +kernel
theorem dX12_solve_71 : decode cX12_solve 71 = .ok (.invokevirtual 406, 3) := by decide +kernel
theorem dX12_solve_74 : decode cX12_solve 74 = .ok (.bipush 96, 2) := by decide +kernel
theorem dX12_solve_76 : decode cX12_solve 76 = .ok (.isub, 1) := by decide +kernel
theorem dX12_solve_77 : decode cX12_solve 77 = .ok (.iastore, 1) := by decide +kernel
theorem dX12_solve_78 : decode cX12_solve 78 = .ok (.iinc 5 1, 3) := by decide +kernel
theorem dX12_solve_81 : decode cX12_solve 81 = .ok (.goto (-37), 3) := by decide +kernel
theorem dX12_solve_84 : decode cX12_solve 84 = .ok (.iinc 2 1, 3) := by decide +kernel
theorem dX12_solve_87 : decode cX12_solve 87 = .ok (.aload_n 0, 1) := by decide +kernel
theorem dX12_solve_88 : decode cX12_solve 88 = .ok (.iload_n 1, 1) := by decide +kernel
theorem dX12_solve_89 : decode cX12_solve 89 = .ok (.invokevirtual 431, 3) := by decide +kernel
theorem dX12_solve_92 : decode cX12_solve 92 = .ok (.istore_n 3, 1) := by decide +kernel
theorem dX12_solve_93 : decode cX12_solve 93 = .ok (.goto (-80), 3) := by decide +kernel
theorem dX12_solve_96 : decode cX12_solve 96 = .ok (.iload_n 2, 1) := by decide +kernel
theorem dX12_solve_97 : decode cX12_solve 97 = .ok (.ireturn, 1) := by decide +kernel
def K_X12_solve_13 (G : xG) (l : Launch) (d : Nat) (P : Int → xMem → Prop) (v1 v2 v3 : Int) (μ : xMem) : Prop := RR G l d 0 0 false mX12_solve (qI P) 13 [some (xr G 74), some (xi v1), some (xi v2), some (xi v3), none, none] [] LAY μ 0 0
def K_X12_solve_20 (G : xG) (l : Launch) (d : Nat) (P : Int → xMem → Prop) (v1 v2 v3 v4 : Int) (μ : xMem) : Prop := RR G l d 0 0 false mX12_solve (qI P) 20 [some (xr G 74), some (xi v1), some (xi v2), some (xi v3), some (xi v4), none] [] LAY μ 0 0
def K_X12_solve_44 (G : xG) (l : Launch) (d : Nat) (P : Int → xMem → Prop) (v1 v2 v3 v4 v5 : Int) (μ : xMem) : Prop := RR G l d 0 0 false mX12_solve (qI P) 44 [some (xr G 74), some (xi v1), some (xi v2), some (xi v3), some (xi v4), some (xi v5)] [] LAY μ 0 0
set_option maxRecDepth 20000 in
theorem E_X12_solve {G : xG} {l : Launch} {d : Nat} {P : Int → xMem → Prop} {v1 : Int} {μ : xMem} (h : CI G l d mX12_nextOf [xr G 74, xi v1] (st2 μ 74 0 0) (fun r1 m2 => K_X12_solve_13 G l (d + 1) P v1 0 r1 m2)) : CI G l (d + 1) mX12_solve [xr G 74, xi v1] μ P := by
  refine CC.ofRR (ll := [some (xr G 74), some (xi v1), none, none, none, none]) (by decide +kernel) (Nat.le_of_ble_eq_true rfl) rfl (fun h => by cases h) ?_
  refine xr_aload_n dX12_solve_0 rfl ?_
  refine xr_iconst dX12_solve_1 ?_
  refine xr_putI dX12_solve_2 fp_X12_185 L_74 rfl rfl ⟨rfl, rfl⟩ ?_
  refine xr_iconst dX12_solve_5 ?_
  refine xr_istore_n' (ll' := [some (xr G 74), some (xi v1), some (xi 0), none, none, none]) dX12_solve_6 (by decide) rfl rfl ?_
  refine xr_aload_n dX12_solve_7 rfl ?_
  refine xr_iload_n dX12_solve_8 rfl ?_
  refine xr_cvI (As := [xi v1]) dX12_solve_9 mi_X12_nextOf ml_X12_431 se_X12_nextOf L_74 rfl rfl rfl (Nat.le_of_ble_eq_true rfl) h (fun r1 m2 hr1 h => ?_)
  refine xr_istore_n' (ll' := [some (xr G 74), some (xi v1), some (xi 0), some (xi r1), none, none]) dX12_solve_12 (by decide) rfl rfl ?_
  exact h
set_option maxRecDepth 20000 in
theorem B_X12_solve_13 {G : xG} {l : Launch} {d : Nat} {P : Int → xMem → Prop} {v1 v2 v3 : Int} {μ : xMem} (h : (iR v3 ∧ (v3 < 0 → (iR v2 ∧ P v2 μ)) ∧ (0 ≤ v3 → K_X12_solve_20 G l (d + 1) P v1 v2 v3 0 μ))) : K_X12_solve_13 G l (d + 1) P v1 v2 v3 μ := by
  unfold K_X12_solve_13
  refine xr_iload_n dX12_solve_13 rfl ?_
  obtain ⟨q1, hT2, hF3⟩ := h
  refine xr_if_lt (tgt := 96) dX12_solve_14 (by decide) q1  (fun c => ?_) (fun c => ?_)
  · have h := hT2 c
    refine xr_iload_n dX12_solve_96 rfl ?_
    obtain ⟨q4, h⟩ := h
    exact xr_iret dX12_solve_97 rfl ⟨rfl, _, rfl, q4, h⟩
  · have h := hF3 (Int.not_lt.mp c)
    refine xr_iconst dX12_solve_17 ?_
    refine xr_istore' (ll' := [some (xr G 74), some (xi v1), some (xi v2), some (xi v3), some (xi 0), none]) dX12_solve_18 (by decide) rfl rfl ?_
    exact h
set_option maxRecDepth 20000 in
theorem B_X12_solve_20 {G : xG} {l : Launch} {d : Nat} {P : Int → xMem → Prop} {v1 v2 v3 v4 : Int} {μ : xMem} (h : ((0 ≤ (120 * v3) + v4 ∧ (120 * v3) + v4 < 1920) ∧ (iR (μ 119 ((120 * v3) + v4)) ∧ ((μ 119 ((120 * v3) + v4)) ≠ 0 → K_X12_solve_44 G l (d + 1) P v1 v2 v3 v4 0 μ) ∧ ((μ 119 ((120 * v3) + v4)) = 0 → K_X12_solve_20 G l (d + 1) P v1 v2 v3 (v4 + 1) μ)))) : K_X12_solve_20 G l (d + 1) P v1 v2 v3 v4 μ := by
  unfold K_X12_solve_20
  refine xr_aload_n dX12_solve_20 rfl ?_
  refine xr_getR dX12_solve_21 fl_X12_152 L_74 rfl ?_
  refine xr_bipush dX12_solve_24 (by decide) ?_
  refine xr_iload_n dX12_solve_26 rfl ?_
  refine xr_imul dX12_solve_27 ?_
  refine xr_iload dX12_solve_28 rfl ?_
  refine xr_iadd dX12_solve_30 ?_
  obtain ⟨q1, h⟩ := h
  refine xr_zaload' (v := μ 119 ((120 * v3) + v4)) dX12_solve_31 L_119 rfl (by decide) q1 rfl ?_
  obtain ⟨q2, hT3, hF4⟩ := h
  refine xr_if_ne (tgt := 41) dX12_solve_32 (by decide) q2  (fun c => ?_) (fun c => ?_)
  · have h := hT3 c
    refine xr_iconst dX12_solve_41 ?_
    refine xr_istore' (ll' := [some (xr G 74), some (xi v1), some (xi v2), some (xi v3), some (xi v4), some (xi 0)]) dX12_solve_42 (by decide) rfl rfl ?_
    exact h
  · have h := hF4 c
    refine xr_iinc' (ll' := [some (xr G 74), some (xi v1), some (xi v2), some (xi v3), some (xi (v4 + 1)), none]) dX12_solve_35 rfl (by decide) rfl rfl ?_
    refine xr_goto (tgt := 20) dX12_solve_38 (by decide) ?_
    exact h
set_option maxRecDepth 20000 in
theorem B_X12_solve_44 {G : xG} {l : Launch} {d : Nat} {P : Int → xMem → Prop} {v1 v2 v3 v4 v5 : Int} {μ : xMem} (h : ((0 ≤ v3 ∧ v3 < 16) ∧ (iR v5 ∧ iR (μ 89 v3) ∧ ((μ 89 v3) ≤ v5 → CI G l d mX12_nextOf [xr G 74, xi v1] μ (fun r6 m7 => K_X12_solve_13 G l (d + 1) P v1 (v2 + 1) r6 m7)) ∧ (v5 < (μ 89 v3) → CI G l d mX12_cellOf [xr G 74, xi v3, xi v5] μ (fun r8 m9 => CI G l d mX12_letterOf [xr G 74, xi v4, xi v5] m9 (fun r10 m11 => ((0 ≤ r8 ∧ r8 < 81) ∧ K_X12_solve_44 G l (d + 1) P v1 v2 v3 v4 (v5 + 1) (st2 m11 113 r8 (r10 - 96))))))))) : K_X12_solve_44 G l (d + 1) P v1 v2 v3 v4 v5 μ := by
  unfold K_X12_solve_44
  refine xr_iload dX12_solve_44 rfl ?_
  refine xr_aload_n dX12_solve_46 rfl ?_
  refine xr_getR dX12_solve_47 fl_X12_53 L_74 rfl ?_
  refine xr_iload_n dX12_solve_50 rfl ?_
  obtain ⟨q1, h⟩ := h
  refine xr_iaload' (v := μ 89 v3) dX12_solve_51 L_89 rfl (by decide) q1 rfl ?_
  obtain ⟨q2, q3, hT4, hF5⟩ := h
  refine xr_icmp_ge (tgt := 84) dX12_solve_52 (by decide) q2 q3 (fun c => ?_) (fun c => ?_)
  · have h := hT4 c
    refine xr_iinc' (ll' := [some (xr G 74), some (xi v1), some (xi (v2 + 1)), some (xi v3), some (xi v4), some (xi v5)]) dX12_solve_84 rfl (by decide) rfl rfl ?_
    refine xr_aload_n dX12_solve_87 rfl ?_
    refine xr_iload_n dX12_solve_88 rfl ?_
    refine xr_cvI (As := [xi v1]) dX12_solve_89 mi_X12_nextOf ml_X12_431 se_X12_nextOf L_74 rfl rfl rfl (Nat.le_of_ble_eq_true rfl) h (fun r6 m7 hr6 h => ?_)
    refine xr_istore_n' (ll' := [some (xr G 74), some (xi v1), some (xi (v2 + 1)), some (xi r6), some (xi v4), some (xi v5)]) dX12_solve_92 (by decide) rfl rfl ?_
    refine xr_goto (tgt := 13) dX12_solve_93 (by decide) ?_
    refine xr_wk (ll' := [some (xr G 74), some (xi v1), some (xi (v2 + 1)), some (xi r6), none, none]) ⟨rfl, ⟨rfl, ⟨rfl, ⟨rfl, trivial⟩⟩⟩⟩ ?_
    exact h
  · have h := hF5 (Int.not_le.mp c)
    refine xr_aload_n dX12_solve_55 rfl ?_
    refine xr_getR dX12_solve_56 fl_X12_134 L_74 rfl ?_
    refine xr_aload_n dX12_solve_59 rfl ?_
    refine xr_iload_n dX12_solve_60 rfl ?_
    refine xr_iload dX12_solve_61 rfl ?_
    refine xr_cvI (As := [xi v3, xi v5]) dX12_solve_63 mi_X12_cellOf ml_X12_391 se_X12_cellOf L_74 rfl rfl rfl (Nat.le_of_ble_eq_true rfl) h (fun r8 m9 hr8 h => ?_)
    refine xr_aload_n dX12_solve_66 rfl ?_
    refine xr_iload dX12_solve_67 rfl ?_
    refine xr_iload dX12_solve_69 rfl ?_
    refine xr_cvI (As := [xi v4, xi v5]) dX12_solve_71 mi_X12_letterOf ml_X12_406 se_X12_letterOf L_74 rfl rfl rfl (Nat.le_of_ble_eq_true rfl) h (fun r10 m11 hr10 h => ?_)
    refine xr_bipush dX12_solve_74 (by decide) ?_
    refine xr_isub dX12_solve_76 ?_
    obtain ⟨q12, h⟩ := h
    refine xr_iastore dX12_solve_77 L_113 rfl (by decide) q12 ?_
    refine xr_iinc' (ll' := [some (xr G 74), some (xi v1), some (xi v2), some (xi v3), some (xi v4), some (xi (v5 + 1))]) dX12_solve_78 rfl (by decide) rfl rfl ?_
    refine xr_goto (tgt := 44) dX12_solve_81 (by decide) ?_
    exact h
end Blk34_bX12d
