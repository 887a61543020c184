/-! blocks of the class's code, printed by program -/
section Blk27_bX5
set_option maxRecDepth 20000 in
theorem E_X5_restart {G : xG} {l : Launch} {d : Nat} {P : xMem → Prop} {v1 v2 : Int} {μ : xMem} (h : ((v2 = 0 ∨ v2 = 1) ∧ CV G l d mX5_open [xr G 27, xi 7920] (st2 (st2 (st2 μ 27 6 ((μ 27 6) + 1)) 27 7 v1) 27 8 v2) (fun m3 => CV G l d mX5_open [xr G 27, xi 7921] m3 (fun m5 => P m5)))) : CV G l (d + 1) mX5_restart [xr G 27, xi v1, xi v2] μ P := by
  refine CC.ofRR (ll := [some (xr G 27), some (xi v1), some (xi v2)]) (by decide +kernel) (Nat.le_of_ble_eq_true rfl) rfl (fun h => by cases h) ?_
  refine xr_aload_n dX5_restart_0 rfl ?_
  refine xr_dup dX5_restart_1 rfl ?_
  refine xr_getI' (v := μ 27 6) dX5_restart_2 fl_X5_28 L_27 rfl rfl rfl ?_
  refine xr_iconst dX5_restart_5 ?_
  refine xr_iadd dX5_restart_6 ?_
  refine xr_putI dX5_restart_7 fp_X5_28 L_27 rfl rfl ⟨rfl, rfl⟩ ?_
  refine xr_aload_n dX5_restart_10 rfl ?_
  refine xr_iload_n dX5_restart_11 rfl ?_
  refine xr_putI dX5_restart_12 fp_X5_32 L_27 rfl rfl ⟨rfl, rfl⟩ ?_
  refine xr_aload_n dX5_restart_15 rfl ?_
  refine xr_iload_n dX5_restart_16 rfl ?_
  obtain ⟨q1, h⟩ := h
  refine xr_putI dX5_restart_17 fp_X5_35 L_27 rfl rfl (x_nz q1) ?_
  refine xr_aload_n dX5_restart_20 rfl ?_
  refine xr_sipush dX5_restart_21 (by decide) ?_
  refine xr_cvV (As := [xi 7920]) dX5_restart_24 mi_X5_open ml_X5_39 se_X5_open L_27 rfl rfl rfl (Nat.le_of_ble_eq_true rfl) h (fun m3 h => ?_)
  refine xr_aload_n dX5_restart_27 rfl ?_
  refine xr_sipush dX5_restart_28 (by decide) ?_
  refine xr_cvV (As := [xi 7921]) dX5_restart_31 mi_X5_open ml_X5_39 se_X5_open L_27 rfl rfl rfl (Nat.le_of_ble_eq_true rfl) h (fun m5 h => ?_)
  exact xr_ret dX5_restart_34 rfl ⟨rfl, rfl, h⟩
set_option maxRecDepth 20000 in
theorem E_X5_placeOf {G : xG} {l : Launch} {d : Nat} {P : Int → xMem → Prop} {v1 v2 v3 v4 v5 : Int} {μ : xMem} (h : ((0 ≤ v3 * (v3 + 1) ∧ v3 * (v3 + 1) < 2147483648) ∧ ((0 ≤ v5 * (v5 - 1) ∧ v5 * (v5 - 1) < 2147483648) ∧ (iR ((((v1 * 36) + (((v3 * (v3 + 1)) / 2) + v2)) * 55) + (((v5 * (v5 - 1)) / 2) + v4)) ∧ P ((((v1 * 36) + (((v3 * (v3 + 1)) / 2) + v2)) * 55) + (((v5 * (v5 - 1)) / 2) + v4)) μ)))) : CI G l (d + 1) mX5_placeOf [xr G 27, xi v1, xi v2, xi v3, xi v4, xi v5] μ P := by
  refine CC.ofRR (ll := [some (xr G 27), some (xi v1), some (xi v2), some (xi v3), some (xi v4), some (xi v5), none, none]) (by decide +kernel) (Nat.le_of_ble_eq_true rfl) rfl (fun h => by cases h) ?_
  refine xr_iload_n dX5_placeOf_0 rfl ?_
  refine xr_iload_n dX5_placeOf_1 rfl ?_
  refine xr_iconst dX5_placeOf_2 ?_
  refine xr_iadd dX5_placeOf_3 ?_
  refine xr_imul dX5_placeOf_4 ?_
  refine xr_iconst dX5_placeOf_5 ?_
  obtain ⟨q1, h⟩ := h
  refine xr_idiv dX5_placeOf_6 q1 (by decide) ?_
  refine xr_iload_n dX5_placeOf_7 rfl ?_
  refine xr_iadd dX5_placeOf_8 ?_
  refine xr_istore' (ll' := [some (xr G 27), some (xi v1), some (xi v2), some (xi v3), some (xi v4), some (xi v5), some (xi (((v3 * (v3 + 1)) / 2) + v2)), none]) dX5_placeOf_9 (by decide) rfl rfl ?_
  refine xr_iload dX5_placeOf_11 rfl ?_
  refine xr_iload dX5_placeOf_13 rfl ?_
  refine xr_iconst dX5_placeOf_15 ?_
  refine xr_isub dX5_placeOf_16 ?_
  refine xr_imul dX5_placeOf_17 ?_
  refine xr_iconst dX5_placeOf_18 ?_
  obtain ⟨q2, h⟩ := h
  refine xr_idiv dX5_placeOf_19 q2 (by decide) ?_
  refine xr_iload dX5_placeOf_20 rfl ?_
  refine xr_iadd dX5_placeOf_22 ?_
  refine xr_istore' (ll' := [some (xr G 27), some (xi v1), some (xi v2), some (xi v3), some (xi v4), some (xi v5), some (xi (((v3 * (v3 + 1)) / 2) + v2)), some (xi (((v5 * (v5 - 1)) / 2) + v4))]) dX5_placeOf_23 (by decide) rfl rfl ?_
  refine xr_iload_n dX5_placeOf_25 rfl ?_
  refine xr_bipush dX5_placeOf_26 (by decide) ?_
  refine xr_imul dX5_placeOf_28 ?_
  refine xr_iload dX5_placeOf_29 rfl ?_
  refine xr_iadd dX5_placeOf_31 ?_
  refine xr_bipush dX5_placeOf_32 (by decide) ?_
  refine xr_imul dX5_placeOf_34 ?_
  refine xr_iload dX5_placeOf_35 rfl ?_
  refine xr_iadd dX5_placeOf_37 ?_
  obtain ⟨q3, h⟩ := h
  exact xr_iret dX5_placeOf_38 rfl ⟨rfl, _, rfl, q3, h⟩
set_option maxRecDepth 20000 in
theorem E_X5_isOpen {G : xG} {l : Launch} {d : Nat} {P : Int → xMem → Prop} {v1 : Int} {μ : xMem} (h : ((0 ≤ v1 ∧ v1 < 7922) ∧ (iR (μ 28 v1) ∧ iR (μ 27 6) ∧ ((μ 28 v1) ≠ (μ 27 6) → P 0 μ) ∧ ((μ 28 v1) = (μ 27 6) → P 1 μ)))) : CI G l (d + 1) mX5_isOpen [xr G 27, xi v1] μ P := by
  refine CC.ofRR (ll := [some (xr G 27), some (xi v1)]) (by decide +kernel) (Nat.le_of_ble_eq_true rfl) rfl (fun h => by cases h) ?_
  refine xr_aload_n dX5_isOpen_0 rfl ?_
  refine xr_getR dX5_isOpen_1 fl_X5_9 L_27 rfl ?_
  refine xr_iload_n dX5_isOpen_4 rfl ?_
  obtain ⟨q1, h⟩ := h
  refine xr_iaload' (v := μ 28 v1) dX5_isOpen_5 L_28 rfl (by decide) q1 rfl ?_
  refine xr_aload_n dX5_isOpen_6 rfl ?_
  refine xr_getI' (v := μ 27 6) dX5_isOpen_7 fl_X5_28 L_27 rfl rfl rfl ?_
  obtain ⟨q2, q3, hT4, hF5⟩ := h
  refine xr_icmp_ne (tgt := 17) dX5_isOpen_10 (by decide) q2 q3 (fun c => ?_) (fun c => ?_)
  · have h := hT4 c
    refine xr_iconst dX5_isOpen_17 ?_
    exact xr_zret dX5_isOpen_18 rfl (x_nz (by decide)).1 ⟨rfl, _, rfl, x_01 (by decide), h⟩
  · have h := hF5 c
    refine xr_iconst dX5_isOpen_13 ?_
    refine xr_goto (tgt := 18) dX5_isOpen_14 (by decide) ?_
    exact xr_zret dX5_isOpen_18 rfl (x_nz (by decide)).1 ⟨rfl, _, rfl, x_01 (by decide), h⟩
set_option maxRecDepth 20000 in
theorem E_X5_open {G : xG} {l : Launch} {d : Nat} {P : xMem → Prop} {v1 : Int} {μ : xMem} (h : ((0 ≤ v1 ∧ v1 < 7922) ∧ P (st2 (st2 (st2 μ 28 v1 (μ 27 6)) 29 v1 0) 30 v1 1000))) : CV G l (d + 1) mX5_open [xr G 27, xi v1] μ P := by
  refine CC.ofRR (ll := [some (xr G 27), some (xi v1)]) (by decide +kernel) (Nat.le_of_ble_eq_true rfl) rfl (fun h => by cases h) ?_
  refine xr_aload_n dX5_open_0 rfl ?_
  refine xr_getR dX5_open_1 fl_X5_9 L_27 rfl ?_
  refine xr_iload_n dX5_open_4 rfl ?_
  refine xr_aload_n dX5_open_5 rfl ?_
  refine xr_getI' (v := μ 27 6) dX5_open_6 fl_X5_28 L_27 rfl rfl rfl ?_
  obtain ⟨q1, h⟩ := h
  refine xr_iastore dX5_open_9 L_28 rfl (by decide) q1 ?_
  refine xr_aload_n dX5_open_10 rfl ?_
  refine xr_getR dX5_open_11 fl_X5_15 L_27 rfl ?_
  refine xr_iload_n dX5_open_14 rfl ?_
  refine xr_iconst dX5_open_15 ?_
  refine xr_iastore dX5_open_16 L_29 rfl (by decide) q1 ?_
  refine xr_aload_n dX5_open_17 rfl ?_
  refine xr_getR dX5_open_18 fl_X5_18 L_27 rfl ?_
  refine xr_iload_n dX5_open_21 rfl ?_
  refine xr_sipush dX5_open_22 (by decide) ?_
  refine xr_iastore dX5_open_25 L_30 rfl (by decide) q1 ?_
  exact xr_ret dX5_open_26 rfl ⟨rfl, rfl, h⟩
set_option maxRecDepth 20000 in
theorem E_X5_hasEnough {G : xG} {l : Launch} {d : Nat} {P : Int → xMem → Prop} {v1 : Int} {μ : xMem} (h : (iR (μ 27 8) ∧ ((μ 27 8) ≠ 0 → P 0 μ) ∧ ((μ 27 8) = 0 → ((0 ≤ v1 ∧ v1 < 7922) ∧ (iR (μ 29 v1) ∧ iR (μ 27 7) ∧ ((μ 29 v1) < (μ 27 7) → P 0 μ) ∧ ((μ 27 7) ≤ (μ 29 v1) → P 1 μ)))))) : CI G l (d + 1) mX5_hasEnough [xr G 27, xi v1] μ P := by
  refine CC.ofRR (ll := [some (xr G 27), some (xi v1)]) (by decide +kernel) (Nat.le_of_ble_eq_true rfl) rfl (fun h => by cases h) ?_
  refine xr_aload_n dX5_hasEnough_0 rfl ?_
  refine xr_getI' (v := μ 27 8) dX5_hasEnough_1 fl_X5_35 L_27 rfl rfl rfl ?_
  obtain ⟨q1, hT2, hF3⟩ := h
  refine xr_if_ne (tgt := 24) dX5_hasEnough_4 (by decide) q1  (fun c => ?_) (fun c => ?_)
  · have h := hT2 c
    refine xr_iconst dX5_hasEnough_24 ?_
    exact xr_zret dX5_hasEnough_25 rfl (x_nz (by decide)).1 ⟨rfl, _, rfl, x_01 (by decide), h⟩
  · have h := hF3 c
    refine xr_aload_n dX5_hasEnough_7 rfl ?_
    refine xr_getR dX5_hasEnough_8 fl_X5_15 L_27 rfl ?_
    refine xr_iload_n dX5_hasEnough_11 rfl ?_
    obtain ⟨q4, h⟩ := h
    refine xr_iaload' (v := μ 29 v1) dX5_hasEnough_12 L_29 rfl (by decide) q4 rfl ?_
    refine xr_aload_n dX5_hasEnough_13 rfl ?_
    refine xr_getI' (v := μ 27 7) dX5_hasEnough_14 fl_X5_32 L_27 rfl rfl rfl ?_
    obtain ⟨q5, q6, hT7, hF8⟩ := h
    refine xr_icmp_lt (tgt := 24) dX5_hasEnough_17 (by decide) q5 q6 (fun c => ?_) (fun c => ?_)
    · have h := hT7 c
      refine xr_iconst dX5_hasEnough_24 ?_
      exact xr_zret dX5_hasEnough_25 rfl (x_nz (by decide)).1 ⟨rfl, _, rfl, x_01 (by decide), h⟩
    · have h := hF8 (Int.not_lt.mp c)
      refine xr_iconst dX5_hasEnough_20 ?_
      refine xr_goto (tgt := 25) dX5_hasEnough_21 (by decide) ?_
      exact xr_zret dX5_hasEnough_25 rfl (x_nz (by decide)).1 ⟨rfl, _, rfl, x_01 (by decide), h⟩
set_option maxRecDepth 20000 in
theorem E_X5_offer {G : xG} {l : Launch} {d : Nat} {P : Int → xMem → Prop} {v1 v2 v3 : Int} {μ : xMem} (h : ((0 ≤ v1 ∧ v1 < 7922) ∧ (iR (μ 27 7) ∧ iR ((μ 29 v1) + v2) ∧ (iR (μ 27 8) ∧ ((μ 27 8) = 0 → P 0 (st2 μ 29 v1 (if ((μ 29 v1) + v2) < (μ 27 7) then (μ 29 v1) + v2 else μ 27 7))) ∧ ((μ 27 8) ≠ 0 → (iR v3 ∧ iR (μ 30 v1) ∧ (v3 ≤ (μ 30 v1) → CV G l d mJ7_fill_d0a16 [xr G 32, xl 0] (st2 (st2 μ 29 v1 (if ((μ 29 v1) + v2) < (μ 27 7) then (μ 29 v1) + v2 else μ 27 7)) 27 5 0) (fun m12 => P 1 m12)) ∧ ((μ 30 v1) < v3 → P 0 (st2 μ 29 v1 (if ((μ 29 v1) + v2) < (μ 27 7) then (μ 29 v1) + v2 else μ 27 7))))))))) : CI G l (d + 1) mX5_offer [xr G 27, xi v1, xi v2, xi v3] μ P := by
  refine CC.ofRR (ll := [some (xr G 27), some (xi v1), some (xi v2), some (xi v3)]) (by decide +kernel) (Nat.le_of_ble_eq_true rfl) rfl (fun h => by cases h) ?_
  refine xr_aload_n dX5_offer_0 rfl ?_
  refine xr_getR dX5_offer_1 fl_X5_15 L_27 rfl ?_
  refine xr_iload_n dX5_offer_4 rfl ?_
  refine xr_aload_n dX5_offer_5 rfl ?_
  refine xr_getI' (v := μ 27 7) dX5_offer_6 fl_X5_32 L_27 rfl rfl rfl ?_
  refine xr_aload_n dX5_offer_9 rfl ?_
  refine xr_getR dX5_offer_10 fl_X5_15 L_27 rfl ?_
  refine xr_iload_n dX5_offer_13 rfl ?_
  obtain ⟨q1, h⟩ := h
  refine xr_iaload' (v := μ 29 v1) dX5_offer_14 L_29 rfl (by decide) q1 rfl ?_
  refine xr_iload_n dX5_offer_15 rfl ?_
  refine xr_iadd dX5_offer_16 ?_
  obtain ⟨q2, q3, h⟩ := h
  refine xr_min dX5_offer_17 mm_X5_43 w_mins w_mathi w_minc (Nat.le_add_left _ _) (Nat.le_of_ble_eq_true rfl) q2 q3 ?_
  refine xr_iastore dX5_offer_20 L_29 rfl (by decide) q1 ?_
  refine xr_aload_n dX5_offer_21 rfl ?_
  refine xr_getI' (v := μ 27 8) dX5_offer_22 fl_X5_35 L_27 rfl rfl (by simp [st2, cpy]) ?_
  obtain ⟨q4, hT5, hF6⟩ := h
  refine xr_if_eq (tgt := 38) dX5_offer_25 (by decide) q4  (fun c => ?_) (fun c => ?_)
  · have h := hT5 c
    refine xr_iconst dX5_offer_38 ?_
    exact xr_zret dX5_offer_39 rfl (x_nz (by decide)).1 ⟨rfl, _, rfl, x_01 (by decide), h⟩
  · have h := hF6 c
    refine xr_iload_n dX5_offer_28 rfl ?_
    refine xr_aload_n dX5_offer_29 rfl ?_
    refine xr_getR dX5_offer_30 fl_X5_18 L_27 rfl ?_
    refine xr_iload_n dX5_offer_33 rfl ?_
    refine xr_iaload' (v := μ 30 v1) dX5_offer_34 L_30 rfl (by decide) q1 (by simp [st2, cpy]) ?_
    obtain ⟨q7, q8, hT9, hF10⟩ := h
    refine xr_icmp_le (tgt := 40) dX5_offer_35 (by decide) q7 q8 (fun c => ?_) (fun c => ?_)
    · have h := hT9 c
      refine xr_aload_n dX5_offer_40 rfl ?_
      refine xr_iconst dX5_offer_41 ?_
      refine xr_putI dX5_offer_42 fp_X5_49 L_27 rfl rfl ⟨rfl, rfl⟩ ?_
      refine xr_aload_n dX5_offer_45 rfl ?_
      refine xr_getR dX5_offer_46 fl_X5_25 L_27 rfl ?_
      refine xr_lconst dX5_offer_49 ?_
      refine xr_csV (As := [xr G 32, xl 0]) dX5_offer_50 ms_J7_fill_d0a16 ml_X5_52 rfl rfl (Nat.le_of_ble_eq_true rfl) h (fun m12 h => ?_)
      refine xr_iconst dX5_offer_53 ?_
      exact xr_zret dX5_offer_54 rfl (x_nz (by decide)).1 ⟨rfl, _, rfl, x_01 (by decide), h⟩
    · have h := hF10 (Int.not_le.mp c)
      refine xr_iconst dX5_offer_38 ?_
      exact xr_zret dX5_offer_39 rfl (x_nz (by decide)).1 ⟨rfl, _, rfl, x_01 (by decide), h⟩
set_option maxRecDepth 20000 in
theorem E_X5_put {G : xG} {l : Launch} {d : Nat} {P : xMem → Prop} {v1 : Int} {μ : xMem} (h : (iR (μ 27 5) ∧ (36 ≤ (μ 27 5) → P μ) ∧ ((μ 27 5) < 36 → ((0 ≤ μ 27 5 ∧ μ 27 5 < 2147483648) ∧ ((0 ≤ (μ 27 5) / 12 ∧ (μ 27 5) / 12 < 3) ∧ (iR v1 ∧ P (st2 (st2 μ 32 ((μ 27 5) / 12) (jlor (μ 32 ((μ 27 5) / 12)) (jlshl v1 (55 - (5 * ((μ 27 5) % 12)))))) 27 5 ((μ 27 5) + 1)))))))) : CV G l (d + 1) mX5_put [xr G 27, xi v1] μ P := by
  refine CC.ofRR (ll := [some (xr G 27), some (xi v1), none]) (by decide +kernel) (Nat.le_of_ble_eq_true rfl) rfl (fun h => by cases h) ?_
  refine xr_aload_n dX5_put_0 rfl ?_
  refine xr_getI' (v := μ 27 5) dX5_put_1 fl_X5_49 L_27 rfl rfl rfl ?_
  refine xr_bipush dX5_put_4 (by decide) ?_
  obtain ⟨q1, hT2, hF3⟩ := h
  refine xr_icmp_ge (tgt := 51) dX5_put_6 (by decide) q1 (by decide) (fun c => ?_) (fun c => ?_)
  · have h := hT2 c
    exact xr_ret dX5_put_51 rfl ⟨rfl, rfl, h⟩
  · have h := hF3 (Int.not_le.mp c)
    refine xr_bipush dX5_put_9 (by decide) ?_
    refine xr_iconst dX5_put_11 ?_
    refine xr_aload_n dX5_put_12 rfl ?_
    refine xr_getI' (v := μ 27 5) dX5_put_13 fl_X5_49 L_27 rfl rfl rfl ?_
    refine xr_bipush dX5_put_16 (by decide) ?_
    obtain ⟨q4, h⟩ := h
    refine xr_irem dX5_put_18 q4 (by decide) ?_
    refine xr_imul dX5_put_19 ?_
    refine xr_isub dX5_put_20 ?_
    refine xr_istore_n' (ll' := [some (xr G 27), some (xi v1), some (xi (55 - (5 * ((μ 27 5) % 12))))]) dX5_put_21 (by decide) rfl rfl ?_
    refine xr_aload_n dX5_put_22 rfl ?_
    refine xr_getR dX5_put_23 fl_X5_25 L_27 rfl ?_
    refine xr_aload_n dX5_put_26 rfl ?_
    refine xr_getI' (v := μ 27 5) dX5_put_27 fl_X5_49 L_27 rfl rfl rfl ?_
    refine xr_bipush dX5_put_30 (by decide) ?_
    refine xr_idiv dX5_put_32 q4 (by decide) ?_
    refine xr_dup2 dX5_put_33 rfl rfl ?_
    obtain ⟨q5, h⟩ := h
    refine xr_laload' (v := μ 32 ((μ 27 5) / 12)) dX5_put_34 L_32 rfl (by decide) q5 rfl ?_
    refine xr_iload_n dX5_put_35 rfl ?_
    obtain ⟨q6, h⟩ := h
    refine xr_i2l dX5_put_36 q6 ?_
    refine xr_iload_n dX5_put_37 rfl ?_
    refine xr_lshl dX5_put_38 ?_
    refine xr_lor dX5_put_39 ?_
    refine xr_lastore dX5_put_40 L_32 rfl (by decide) q5 ?_
    refine xr_aload_n dX5_put_41 rfl ?_
    refine xr_dup dX5_put_42 rfl ?_
    refine xr_getI' (v := μ 27 5) dX5_put_43 fl_X5_49 L_27 rfl rfl (by simp [st2, cpy]) ?_
    refine xr_iconst dX5_put_46 ?_
    refine xr_iadd dX5_put_47 ?_
    refine xr_putI dX5_put_48 fp_X5_49 L_27 rfl rfl ⟨rfl, rfl⟩ ?_
    exact xr_ret dX5_put_51 rfl ⟨rfl, rfl, h⟩
set_option maxRecDepth 20000 in
theorem E_X5_putWord {G : xG} {l : Launch} {d : Nat} {P : xMem → Prop} {v1 v2 : Int} {μ : xMem} (h : CV G l d mX5_put [xr G 27, xi v1] μ (fun m2 => CV G l d mX5_put [xr G 27, xi (12 + v2)] m2 (fun m4 => P m4))) : CV G l (d + 1) mX5_putWord [xr G 27, xi v1, xi v2] μ P := by
  refine CC.ofRR (ll := [some (xr G 27), some (xi v1), some (xi v2)]) (by decide +kernel) (Nat.le_of_ble_eq_true rfl) rfl (fun h => by cases h) ?_
  refine xr_aload_n dX5_putWord_0 rfl ?_
  refine xr_iload_n dX5_putWord_1 rfl ?_
  refine xr_cvV (As := [xi v1]) dX5_putWord_2 mi_X5_put ml_X5_58 se_X5_put L_27 rfl rfl rfl (Nat.le_of_ble_eq_true rfl) h (fun m2 h => ?_)
  refine xr_aload_n dX5_putWord_5 rfl ?_
  refine xr_bipush dX5_putWord_6 (by decide) ?_
  refine xr_iload_n dX5_putWord_8 rfl ?_
  refine xr_iadd dX5_putWord_9 ?_
  refine xr_cvV (As := [xi (12 + v2)]) dX5_putWord_10 mi_X5_put ml_X5_58 se_X5_put L_27 rfl rfl rfl (Nat.le_of_ble_eq_true rfl) h (fun m4 h => ?_)
  exact xr_ret dX5_putWord_13 rfl ⟨rfl, rfl, h⟩
set_option maxRecDepth 20000 in
theorem E_X5_putLink {G : xG} {l : Launch} {d : Nat} {P : xMem → Prop} {v1 : Int} {μ : xMem} (h : (iR v1 ∧ (v1 = (-1) → P μ) ∧ (v1 ≠ (-1) → CV G l d mX5_putWord [xr G 27, xi 27, xi v1] μ (fun m5 => P m5)))) : CV G l (d + 1) mX5_putLink [xr G 27, xi v1] μ P := by
  refine CC.ofRR (ll := [some (xr G 27), some (xi v1)]) (by decide +kernel) (Nat.le_of_ble_eq_true rfl) rfl (fun h => by cases h) ?_
  refine xr_iload_n dX5_putLink_0 rfl ?_
  refine xr_iconst dX5_putLink_1 ?_
  obtain ⟨q1, hT2, hF3⟩ := h
  refine xr_icmp_eq (tgt := 16) dX5_putLink_2 (by decide) q1 (by decide) (fun c => ?_) (fun c => ?_)
  · have h := hT2 c
    exact xr_ret dX5_putLink_16 rfl ⟨rfl, rfl, h⟩
  · have h := hF3 c
    refine xr_aload_n dX5_putLink_5 rfl ?_
    refine xr_ps dX5_putLink_6 fs_X5_61 ?_
    refine xr_bipush dX5_putLink_9 (by decide) ?_
    refine xr_psld dX5_putLink_11 (by decide) ?_
    refine xr_iload_n dX5_putLink_12 rfl ?_
    refine xr_cvV (As := [xi 27, xi v1]) dX5_putLink_13 mi_X5_putWord ml_X5_64 se_X5_putWord L_27 rfl rfl rfl (Nat.le_of_ble_eq_true rfl) h (fun m5 h => ?_)
    exact xr_ret dX5_putLink_16 rfl ⟨rfl, rfl, h⟩
def K_X5_putName_2 (G : xG) (l : Launch) (d : Nat) (P : xMem → Prop) (v1 v2 : Int) (μ : xMem) : Prop := RR G l d 0 0 false mX5_putName (qV P) 2 [some (xr G 27), some (xi v1), some (xi v2), none] [] LAY μ 0 0
set_option maxRecDepth 20000 in
theorem E_X5_putName {G : xG} {l : Launch} {d : Nat} {P : xMem → Prop} {v1 : Int} {μ : xMem} (h : K_X5_putName_2 G l (d + 1) P v1 0 μ) : CV G l (d + 1) mX5_putName [xr G 27, xi v1] μ P := by
  refine CC.ofRR (ll := [some (xr G 27), some (xi v1), none, none]) (by decide +kernel) (Nat.le_of_ble_eq_true rfl) rfl (fun h => by cases h) ?_
  refine xr_iconst dX5_putName_0 ?_
  refine xr_istore_n' (ll' := [some (xr G 27), some (xi v1), some (xi 0), none]) dX5_putName_1 (by decide) rfl rfl ?_
  exact h
set_option maxRecDepth 20000 in
theorem B_X5_putName_2 {G : xG} {l : Launch} {d : Nat} {P : xMem → Prop} {v1 v2 : Int} {μ : xMem} (h : (iR v2 ∧ (36 ≤ v2 → P μ) ∧ (v2 < 36 → CI G l d mX5_symbolAt [xr G 27, xi v1, xi v2] μ (fun r4 m5 => ((r4 ≠ 0 → CV G l d mX5_put [xr G 27, xi r4] m5 (fun m9 => K_X5_putName_2 G l (d + 1) P v1 (v2 + 1) m9)) ∧ (r4 = 0 → P m5)))))) : K_X5_putName_2 G l (d + 1) P v1 v2 μ := by
  unfold K_X5_putName_2
  refine xr_iload_n dX5_putName_2 rfl ?_
  refine xr_bipush dX5_putName_3 (by decide) ?_
  obtain ⟨q1, hT2, hF3⟩ := h
  refine xr_icmp_ge (tgt := 31) dX5_putName_5 (by decide) q1 (by decide) (fun c => ?_) (fun c => ?_)
  · have h := hT2 c
    exact xr_ret dX5_putName_31 rfl ⟨rfl, rfl, h⟩
  · have h := hF3 (Int.not_le.mp c)
    refine xr_aload_n dX5_putName_8 rfl ?_
    refine xr_iload_n dX5_putName_9 rfl ?_
    refine xr_iload_n dX5_putName_10 rfl ?_
    refine xr_cvI (As := [xi v1, xi v2]) dX5_putName_11 mi_X5_symbolAt ml_X5_68 se_X5_symbolAt L_27 rfl rfl rfl (Nat.le_of_ble_eq_true rfl) h (fun r4 m5 hr4 h => ?_)
    refine xr_istore_n' (ll' := [some (xr G 27), some (xi v1), some (xi v2), some (xi r4)]) dX5_putName_14 (by decide) rfl rfl ?_
    refine xr_iload_n dX5_putName_15 rfl ?_
    obtain ⟨hT6, hF7⟩ := h
    refine xr_if_ne (tgt := 20) dX5_putName_16 (by decide) hr4  (fun c => ?_) (fun c => ?_)
    · have h := hT6 c
      refine xr_aload_n dX5_putName_20 rfl ?_
      refine xr_iload_n dX5_putName_21 rfl ?_
      refine xr_cvV (As := [xi r4]) dX5_putName_22 mi_X5_put ml_X5_58 se_X5_put L_27 rfl rfl rfl (Nat.le_of_ble_eq_true rfl) h (fun m9 h => ?_)
      refine xr_iinc' (ll' := [some (xr G 27), some (xi v1), some (xi (v2 + 1)), some (xi r4)]) dX5_putName_25 rfl (by decide) rfl rfl ?_
      refine xr_goto (tgt := 2) dX5_putName_28 (by decide) ?_
      refine xr_wk (ll' := [some (xr G 27), some (xi v1), some (xi (v2 + 1)), none]) ⟨rfl, ⟨rfl, ⟨rfl, trivial⟩⟩⟩ ?_
      exact h
    · have h := hF7 c
      exact xr_ret dX5_putName_19 rfl ⟨rfl, rfl, h⟩
set_option maxRecDepth 20000 in
theorem E_X5_symbolAt {G : xG} {l : Launch} {d : Nat} {P : Int → xMem → Prop} {v1 v2 : Int} {μ : xMem} (h : ((0 ≤ v2 ∧ v2 < 2147483648) ∧ ((0 ≤ (v1 * 3) + (v2 / 12) ∧ (v1 * 3) + (v2 / 12) < 23766) ∧ P (jand (jlushr (μ 31 ((v1 * 3) + (v2 / 12))) (55 - (5 * (v2 % 12)))) 31) μ))) : CI G l (d + 1) mX5_symbolAt [xr G 27, xi v1, xi v2] μ P := by
  refine CC.ofRR (ll := [some (xr G 27), some (xi v1), some (xi v2), none]) (by decide +kernel) (Nat.le_of_ble_eq_true rfl) rfl (fun h => by cases h) ?_
  refine xr_bipush dX5_symbolAt_0 (by decide) ?_
  refine xr_iconst dX5_symbolAt_2 ?_
  refine xr_iload_n dX5_symbolAt_3 rfl ?_
  refine xr_bipush dX5_symbolAt_4 (by decide) ?_
  obtain ⟨q1, h⟩ := h
  refine xr_irem dX5_symbolAt_6 q1 (by decide) ?_
  refine xr_imul dX5_symbolAt_7 ?_
  refine xr_isub dX5_symbolAt_8 ?_
  refine xr_istore_n' (ll' := [some (xr G 27), some (xi v1), some (xi v2), some (xi (55 - (5 * (v2 % 12))))]) dX5_symbolAt_9 (by decide) rfl rfl ?_
  refine xr_aload_n dX5_symbolAt_10 rfl ?_
  refine xr_getR dX5_symbolAt_11 fl_X5_21 L_27 rfl ?_
  refine xr_iload_n dX5_symbolAt_14 rfl ?_
  refine xr_iconst dX5_symbolAt_15 ?_
  refine xr_imul dX5_symbolAt_16 ?_
  refine xr_iload_n dX5_symbolAt_17 rfl ?_
  refine xr_bipush dX5_symbolAt_18 (by decide) ?_
  refine xr_idiv dX5_symbolAt_20 q1 (by decide) ?_
  refine xr_iadd dX5_symbolAt_21 ?_
  obtain ⟨q2, h⟩ := h
  refine xr_laload' (v := μ 31 ((v1 * 3) + (v2 / 12))) dX5_symbolAt_22 L_31 rfl (by decide) q2 rfl ?_
  refine xr_iload_n dX5_symbolAt_23 rfl ?_
  refine xr_lushr dX5_symbolAt_24 ?_
  refine xr_l2i dX5_symbolAt_25 ?_
  refine xr_bipush dX5_symbolAt_26 (by decide) ?_
  refine xr_iand dX5_symbolAt_28 ?_
  exact xr_iret dX5_symbolAt_29 rfl ⟨rfl, _, rfl, (jR_and _ _), h⟩
def K_X5_keep_28 (G : xG) (l : Launch) (d : Nat) (P : xMem → Prop) (v1 v2 : Int) (μ : xMem) : Prop := RR G l d 0 0 false mX5_keep (qV P) 28 [some (xr G 27), some (xi v1), some (xi v2)] [] LAY μ 0 0
set_option maxRecDepth 20000 in
theorem E_X5_keep {G : xG} {l : Launch} {d : Nat} {P : xMem → Prop} {v1 v2 : Int} {μ : xMem} (h : ((0 ≤ v1 ∧ v1 < 7922) ∧ (iR v2 ∧ iR (μ 30 v1) ∧ (v2 < (μ 30 v1) → K_X5_keep_28 G l (d + 1) P v1 v2 μ) ∧ ((μ 30 v1) ≤ v2 → ((v2 ≠ (μ 30 v1) → P μ) ∧ (v2 = (μ 30 v1) → CI G l d mX5_isDraftLess [xr G 27, xi v1] μ (fun r8 m9 => ((r8 = 0 → P m9) ∧ (r8 ≠ 0 → K_X5_keep_28 G l (d + 1) P v1 v2 m9))))))))) : CV G l (d + 1) mX5_keep [xr G 27, xi v1, xi v2] μ P := by
  refine CC.ofRR (ll := [some (xr G 27), some (xi v1), some (xi v2)]) (by decide +kernel) (Nat.le_of_ble_eq_true rfl) rfl (fun h => by cases h) ?_
  refine xr_iload_n dX5_keep_0 rfl ?_
  refine xr_aload_n dX5_keep_1 rfl ?_
  refine xr_getR dX5_keep_2 fl_X5_18 L_27 rfl ?_
  refine xr_iload_n dX5_keep_5 rfl ?_
  obtain ⟨q1, h⟩ := h
  refine xr_iaload' (v := μ 30 v1) dX5_keep_6 L_30 rfl (by decide) q1 rfl ?_
  obtain ⟨q2, q3, hT4, hF5⟩ := h
  refine xr_icmp_lt (tgt := 28) dX5_keep_7 (by decide) q2 q3 (fun c => ?_) (fun c => ?_)
  · have h := hT4 c
    exact h
  · have h := hF5 (Int.not_lt.mp c)
    refine xr_iload_n dX5_keep_10 rfl ?_
    refine xr_aload_n dX5_keep_11 rfl ?_
    refine xr_getR dX5_keep_12 fl_X5_18 L_27 rfl ?_
    refine xr_iload_n dX5_keep_15 rfl ?_
    refine xr_iaload' (v := μ 30 v1) dX5_keep_16 L_30 rfl (by decide) q1 rfl ?_
    obtain ⟨hT6, hF7⟩ := h
    refine xr_icmp_ne (tgt := 51) dX5_keep_17 (by decide) q2 q3 (fun c => ?_) (fun c => ?_)
    · have h := hT6 c
      exact xr_ret dX5_keep_51 rfl ⟨rfl, rfl, h⟩
    · have h := hF7 c
      refine xr_aload_n dX5_keep_20 rfl ?_
      refine xr_iload_n dX5_keep_21 rfl ?_
      refine xr_cvI (As := [xi v1]) dX5_keep_22 mi_X5_isDraftLess ml_X5_71 se_X5_isDraftLess L_27 rfl rfl rfl (Nat.le_of_ble_eq_true rfl) h (fun r8 m9 hr8 h => ?_)
      obtain ⟨hT10, hF11⟩ := h
      refine xr_if_eq (tgt := 51) dX5_keep_25 (by decide) hr8  (fun c => ?_) (fun c => ?_)
      · have h := hT10 c
        exact xr_ret dX5_keep_51 rfl ⟨rfl, rfl, h⟩
      · have h := hF11 c
        exact h
set_option maxRecDepth 20000 in
theorem B_X5_keep_28 {G : xG} {l : Launch} {d : Nat} {P : xMem → Prop} {v1 v2 : Int} {μ : xMem} (h : ((0 ≤ v1 ∧ v1 < 7922) ∧ ((0 ≤ v1 * 3) ∧ (v1 * 3 + 3 ≤ 23766) ∧ P (cpy (st2 μ 30 v1 v2) 32 0 31 (v1 * 3) 3)))) : K_X5_keep_28 G l (d + 1) P v1 v2 μ := by
  unfold K_X5_keep_28
  refine xr_aload_n dX5_keep_28 rfl ?_
  refine xr_getR dX5_keep_29 fl_X5_18 L_27 rfl ?_
  refine xr_iload_n dX5_keep_32 rfl ?_
  refine xr_iload_n dX5_keep_33 rfl ?_
  obtain ⟨q1, h⟩ := h
  refine xr_iastore dX5_keep_34 L_30 rfl (by decide) q1 ?_
  refine xr_aload_n dX5_keep_35 rfl ?_
  refine xr_getR dX5_keep_36 fl_X5_25 L_27 rfl ?_
  refine xr_iconst dX5_keep_39 ?_
  refine xr_aload_n dX5_keep_40 rfl ?_
  refine xr_getR dX5_keep_41 fl_X5_21 L_27 rfl ?_
  refine xr_iload_n dX5_keep_44 rfl ?_
  refine xr_iconst dX5_keep_45 ?_
  refine xr_imul dX5_keep_46 ?_
  refine xr_iconst dX5_keep_47 ?_
  obtain ⟨q2, q3, h⟩ := h
  refine xr_copyL dX5_keep_48 ml_X5_75 w_acn w_acs w_aci (Nat.le_add_left _ _) (Nat.le_of_ble_eq_true rfl) L_32 L_31 (by decide) (by decide) (by decide) q2 (by decide) (by decide) q3 ?_ rfl
  exact xr_ret dX5_keep_51 rfl ⟨rfl, rfl, h⟩
def K_X5_isDraftLess_2 (G : xG) (l : Launch) (d : Nat) (P : Int → xMem → Prop) (v1 v2 : Int) (μ : xMem) : Prop := RR G l d 0 0 false mX5_isDraftLess (qI P) 2 [some (xr G 27), some (xi v1), some (xi v2), none, none] [] LAY μ 0 0
set_option maxRecDepth 20000 in
theorem E_X5_isDraftLess {G : xG} {l : Launch} {d : Nat} {P : Int → xMem → Prop} {v1 : Int} {μ : xMem} (h : K_X5_isDraftLess_2 G l (d + 1) P v1 0 μ) : CI G l (d + 1) mX5_isDraftLess [xr G 27, xi v1] μ P := by
  refine CC.ofRR (ll := [some (xr G 27), some (xi v1), none, none, none]) (by decide +kernel) (Nat.le_of_ble_eq_true rfl) rfl (fun h => by cases h) ?_
  refine xr_iconst dX5_isDraftLess_0 ?_
  refine xr_istore_n' (ll' := [some (xr G 27), some (xi v1), some (xi 0), none, none]) dX5_isDraftLess_1 (by decide) rfl rfl ?_
  exact h
set_option maxRecDepth 20000 in
theorem B_X5_isDraftLess_2 {G : xG} {l : Launch} {d : Nat} {P : Int → xMem → Prop} {v1 v2 : Int} {μ : xMem} (h : (iR v2 ∧ (3 ≤ v2 → P 0 μ) ∧ (v2 < 3 → ((0 ≤ (v1 * 3) + v2 ∧ (v1 * 3) + v2 < 23766) ∧ ((0 ≤ v2 ∧ v2 < 3) ∧ (lR (μ 32 v2) ∧ lR (μ 31 ((v1 * 3) + v2)) ∧ (((jcmp (μ 32 v2) (μ 31 ((v1 * 3) + v2))) = 0 → K_X5_isDraftLess_2 G l (d + 1) P v1 (v2 + 1) μ) ∧ ((jcmp (μ 32 v2) (μ 31 ((v1 * 3) + v2))) ≠ 0 → ((0 ≤ (jcmp (μ 32 v2) (μ 31 ((v1 * 3) + v2))) → P 0 μ) ∧ ((jcmp (μ 32 v2) (μ 31 ((v1 * 3) + v2))) < 0 → P 1 μ)))))))))) : K_X5_isDraftLess_2 G l (d + 1) P v1 v2 μ := by
  unfold K_X5_isDraftLess_2
  refine xr_iload_n dX5_isDraftLess_2 rfl ?_
  refine xr_iconst dX5_isDraftLess_3 ?_
  obtain ⟨q1, hT2, hF3⟩ := h
  refine xr_icmp_ge (tgt := 52) dX5_isDraftLess_4 (by decide) q1 (by decide) (fun c => ?_) (fun c => ?_)
  · have h := hT2 c
    refine xr_iconst dX5_isDraftLess_52 ?_
    exact xr_zret dX5_isDraftLess_53 rfl (x_nz (by decide)).1 ⟨rfl, _, rfl, x_01 (by decide), h⟩
  · have h := hF3 (Int.not_le.mp c)
    refine xr_aload_n dX5_isDraftLess_7 rfl ?_
    refine xr_getR dX5_isDraftLess_8 fl_X5_21 L_27 rfl ?_
    refine xr_iload_n dX5_isDraftLess_11 rfl ?_
    refine xr_iconst dX5_isDraftLess_12 ?_
    refine xr_imul dX5_isDraftLess_13 ?_
    refine xr_iload_n dX5_isDraftLess_14 rfl ?_
    refine xr_iadd dX5_isDraftLess_15 ?_
    obtain ⟨q4, h⟩ := h
    refine xr_laload' (v := μ 31 ((v1 * 3) + v2)) dX5_isDraftLess_16 L_31 rfl (by decide) q4 rfl ?_
    refine xr_lstore_n' (ll' := [some (xr G 27), some (xi v1), some (xi v2), some (xl (μ 31 ((v1 * 3) + v2))), none]) dX5_isDraftLess_17 (by decide) rfl rfl ?_
    refine xr_aload_n dX5_isDraftLess_18 rfl ?_
    refine xr_getR dX5_isDraftLess_19 fl_X5_25 L_27 rfl ?_
    refine xr_iload_n dX5_isDraftLess_22 rfl ?_
    obtain ⟨q5, h⟩ := h
    refine xr_laload' (v := μ 32 v2) dX5_isDraftLess_23 L_32 rfl (by decide) q5 rfl ?_
    refine xr_lload_n dX5_isDraftLess_24 rfl ?_
    obtain ⟨q6, q7, h⟩ := h
    refine xr_lcmp dX5_isDraftLess_25 q6 q7 ?_
    obtain ⟨hT8, hF9⟩ := h
    refine xr_if_eq (tgt := 46) dX5_isDraftLess_26 (by decide) (jR_cmp _ _)  (fun c => ?_) (fun c => ?_)
    · have h := hT8 c
      refine xr_iinc' (ll' := [some (xr G 27), some (xi v1), some (xi (v2 + 1)), some (xl (μ 31 ((v1 * 3) + v2))), none]) dX5_isDraftLess_46 rfl (by decide) rfl rfl ?_
      refine xr_goto (tgt := 2) dX5_isDraftLess_49 (by decide) ?_
      refine xr_wk (ll' := [some (xr G 27), some (xi v1), some (xi (v2 + 1)), none, none]) ⟨rfl, ⟨rfl, ⟨rfl, trivial⟩⟩⟩ ?_
      exact h
    · have h := hF9 c
      refine xr_aload_n dX5_isDraftLess_29 rfl ?_
      refine xr_getR dX5_isDraftLess_30 fl_X5_25 L_27 rfl ?_
      refine xr_iload_n dX5_isDraftLess_33 rfl ?_
      refine xr_laload' (v := μ 32 v2) dX5_isDraftLess_34 L_32 rfl (by decide) q5 rfl ?_
      refine xr_lload_n dX5_isDraftLess_35 rfl ?_
      refine xr_lcmp dX5_isDraftLess_36 q6 q7 ?_
      obtain ⟨hT10, hF11⟩ := h
      refine xr_if_ge (tgt := 44) dX5_isDraftLess_37 (by decide) (jR_cmp _ _)  (fun c => ?_) (fun c => ?_)
      · have h := hT10 c
        refine xr_iconst dX5_isDraftLess_44 ?_
        exact xr_zret dX5_isDraftLess_45 rfl (x_nz (by decide)).1 ⟨rfl, _, rfl, x_01 (by decide), h⟩
      · have h := hF11 (Int.not_le.mp c)
        refine xr_iconst dX5_isDraftLess_40 ?_
        refine xr_goto (tgt := 45) dX5_isDraftLess_41 (by decide) ?_
        exact xr_zret dX5_isDraftLess_45 rfl (x_nz (by decide)).1 ⟨rfl, _, rfl, x_01 (by decide), h⟩
end Blk27_bX5
