/-! blocks of the class's code, printed by program -/
section Blk33_bX11
theorem dX11_feed_0 : decode cX11_feed 0 = .ok (.aload_n 0, 1) := by decide +kernel
theorem dX11_feed_1 : decode cX11_feed 1 = .ok (.getfield 78, 3) := by decide +kernel
theorem dX11_feed_4 : decode cX11_feed 4 = .ok (.bipush 20, 2) := by decide +kernel
theorem dX11_feed_6 : decode cX11_feed 6 = .ok (.iadd, 1) := by decide +kernel
theorem dX11_feed_7 : decode cX11_feed 7 = .ok (.sipush 180, 3) := by decide +kernel
theorem dX11_feed_10 : decode cX11_feed 10 = .ok (.if_icmp .le 5, 3) := by decide +kernel
theorem dX11_feed_13 : decode cX11_feed 13 = .ok (.iconst (-1), 1) := by decide +kernel
theorem dX11_feed_14 : decode cX11_feed 14 = .ok (.ireturn, 1) := by decide +kernel
theorem dX11_feed_15 : decode cX11_feed 15 = .ok (.aload_n 0, 1) := by decide +kernel
theorem dX11_feed_16 : decode cX11_feed 16 = .ok (.iload_n 1, 1) := by decide +kernel
theorem dX11_feed_17 : decode cX11_feed 17 = .ok (.invokevirtual 82, 3) := by decide +kernel
theorem dX11_feed_20 : decode cX11_feed 20 = .ok (.aload_n 0, 1) := by decide +kernel
theorem dX11_feed_21 : decode cX11_feed 21 = .ok (.iload_n 2, 1) := by decide +kernel
theorem dX11_feed_22 : decode cX11_feed 22 = .ok (.invokevirtual 82, 3) := by decide +kernel
theorem dX11_feed_25 : decode cX11_feed 25 = .ok (.aload_n 0, 1) := by decide +kernel
theorem dX11_feed_26 : decode cX11_feed 26 = .ok (.iload_n 3, 1) := by decide +kernel
theorem dX11_feed_27 : decode cX11_feed 27 = .ok (.invokevirtual 82, 3) := by decide +kernel
theorem dX11_feed_30 : decode cX11_feed 30 = .ok (.aload_n 0, 1) := by decide +kernel
theorem dX11_feed_31 : decode cX11_feed 31 = .ok (.iload 4, 2) := by decide +kernel
theorem dX11_feed_33 : decode cX11_feed 33 = .ok (.invokevirtual 82, 3) := by decide +kernel
theorem dX11_feed_36 : decode cX11_feed 36 = .ok (.aload_n 0, 1) := by decide +kernel
theorem dX11_feed_37 : decode cX11_feed 37 = .ok (.iload 5, 2) := by decide +kernel
theorem dX11_feed_39 : decode cX11_feed 39 = .ok (.invokevirtual 82, 3) := by decide +kernel
theorem dX11_feed_42 : decode cX11_feed 42 = .ok (.aload_n 0, 1) := by decide +kernel
theorem dX11_feed_43 : decode cX11_feed 43 = .ok (.getfield 78, 3) := by decide +kernel
theorem dX11_feed_46 : decode cX11_feed 46 = .ok (.ireturn, 1) := by decide +kernel
set_option maxRecDepth 20000 in
theorem E_X11_feed {G : xG} {l : Launch} {d : Nat} {P : Int → xMem → Prop} {v1 v2 v3 v4 v5 : Int} {μ : xMem} (h : (iR ((μ 0 1) + 20) ∧ (((μ 0 1) + 20) ≤ 180 → CV G l d mX11_putNumber [xr G 0, xi v1] μ (fun m5 => CV G l d mX11_putNumber [xr G 0, xi v2] m5 (fun m7 => CV G l d mX11_putNumber [xr G 0, xi v3] m7 (fun m9 => CV G l d mX11_putNumber [xr G 0, xi v4] m9 (fun m11 => CV G l d mX11_putNumber [xr G 0, xi v5] m11 (fun m13 => (iR (m13 0 1) ∧ P (m13 0 1) m13))))))) ∧ (180 < ((μ 0 1) + 20) → P (-1) μ))) : CI G l (d + 1) mX11_feed [xr G 0, xi v1, xi v2, xi v3, xi v4, xi v5] μ P := by
  refine CC.ofRR (ll := [some (xr G 0), some (xi v1), some (xi v2), some (xi v3), some (xi v4), some (xi v5)]) (by decide +kernel) (Nat.le_of_ble_eq_true rfl) rfl (fun h => by cases h) ?_
  refine xr_aload_n dX11_feed_0 rfl ?_
  refine xr_getI' (v := μ 0 1) dX11_feed_1 fl_X11_78 L_0 rfl rfl rfl ?_
  refine xr_bipush dX11_feed_4 (by decide) ?_
  refine xr_iadd dX11_feed_6 ?_
  refine xr_sipush dX11_feed_7 (by decide) ?_
  obtain ⟨q1, hT2, hF3⟩ := h
  refine xr_icmp_le (tgt := 15) dX11_feed_10 (by decide) q1 (by decide) (fun c => ?_) (fun c => ?_)
  · have h := hT2 c
    refine xr_aload_n dX11_feed_15 rfl ?_
    refine xr_iload_n dX11_feed_16 rfl ?_
    refine xr_cvV (As := [xi v1]) dX11_feed_17 mi_X11_putNumber ml_X11_82 se_X11_putNumber L_0 rfl rfl rfl (Nat.le_of_ble_eq_true rfl) h (fun m5 h => ?_)
    refine xr_aload_n dX11_feed_20 rfl ?_
    refine xr_iload_n dX11_feed_21 rfl ?_
    refine xr_cvV (As := [xi v2]) dX11_feed_22 mi_X11_putNumber ml_X11_82 se_X11_putNumber L_0 rfl rfl rfl (Nat.le_of_ble_eq_true rfl) h (fun m7 h => ?_)
    refine xr_aload_n dX11_feed_25 rfl ?_
    refine xr_iload_n dX11_feed_26 rfl ?_
    refine xr_cvV (As := [xi v3]) dX11_feed_27 mi_X11_putNumber ml_X11_82 se_X11_putNumber L_0 rfl rfl rfl (Nat.le_of_ble_eq_true rfl) h (fun m9 h => ?_)
    refine xr_aload_n dX11_feed_30 rfl ?_
    refine xr_iload dX11_feed_31 rfl ?_
    refine xr_cvV (As := [xi v4]) dX11_feed_33 mi_X11_putNumber ml_X11_82 se_X11_putNumber L_0 rfl rfl rfl (Nat.le_of_ble_eq_true rfl) h (fun m11 h => ?_)
    refine xr_aload_n dX11_feed_36 rfl ?_
    refine xr_iload dX11_feed_37 rfl ?_
    refine xr_cvV (As := [xi v5]) dX11_feed_39 mi_X11_putNumber ml_X11_82 se_X11_putNumber L_0 rfl rfl rfl (Nat.le_of_ble_eq_true rfl) h (fun m13 h => ?_)
    refine xr_aload_n dX11_feed_42 rfl ?_
    refine xr_getI' (v := m13 0 1) dX11_feed_43 fl_X11_78 L_0 rfl rfl rfl ?_
    obtain ⟨q14, h⟩ := h
    exact xr_iret dX11_feed_46 rfl ⟨rfl, _, rfl, q14, h⟩
  · have h := hF3 (Int.not_le.mp c)
    refine xr_iconst dX11_feed_13 ?_
    exact xr_iret dX11_feed_14 rfl ⟨rfl, _, rfl, (by decide), h⟩
theorem dX11_end_0 : decode cX11_end 0 = .ok (.iload_n 1, 1) := by decide +kernel
theorem dX11_end_1 : decode cX11_end 1 = .ok (.ifCond .lt 11, 3) := by decide +kernel
theorem dX11_end_4 : decode cX11_end 4 = .ok (.iload_n 1, 1) := by decide +kernel
theorem dX11_end_5 : decode cX11_end 5 = .ok (.aload_n 0, 1) := by decide +kernel
theorem dX11_end_6 : decode cX11_end 6 = .ok (.getfield 78, 3) := by decide +kernel
theorem dX11_end_9 : decode cX11_end 9 = .ok (.if_icmp .le 5, 3) := by decide +kernel
theorem dX11_end_12 : decode cX11_end 12 = .ok (.iconst 0, 1) := by decide +kernel
theorem dX11_end_13 : decode cX11_end 13 = .ok (.ireturn, 1) := by decide +kernel
theorem dX11_end_14 : decode cX11_end 14 = .ok (.aload_n 0, 1) := by decide +kernel
theorem dX11_end_15 : decode cX11_end 15 = .ok (.iload_n 1, 1) := by decide +kernel
theorem dX11_end_16 : decode cX11_end 16 = .ok (.putfield 78, 3) := by decide +kernel
theorem dX11_end_19 : decode cX11_end 19 = .ok (.iconst 1, 1) := by decide +kernel
theorem dX11_end_20 : decode cX11_end 20 = .ok (.ireturn, 1) := by decide +kernel
set_option maxRecDepth 20000 in
theorem E_X11_end {G : xG} {l : Launch} {d : Nat} {P : Int → xMem → Prop} {v1 : Int} {μ : xMem} (h : (iR v1 ∧ (v1 < 0 → P 0 μ) ∧ (0 ≤ v1 → (iR (μ 0 1) ∧ (v1 ≤ (μ 0 1) → P 1 (st2 μ 0 1 v1)) ∧ ((μ 0 1) < v1 → P 0 μ))))) : CI G l (d + 1) mX11_end [xr G 0, xi v1] μ P := by
  refine CC.ofRR (ll := [some (xr G 0), some (xi v1)]) (by decide +kernel) (Nat.le_of_ble_eq_true rfl) rfl (fun h => by cases h) ?_
  refine xr_iload_n dX11_end_0 rfl ?_
  obtain ⟨q1, hT2, hF3⟩ := h
  refine xr_if_lt (tgt := 12) dX11_end_1 (by decide) q1  (fun c => ?_) (fun c => ?_)
  · have h := hT2 c
    refine xr_iconst dX11_end_12 ?_
    exact xr_zret dX11_end_13 rfl (x_nz (by decide)).1 ⟨rfl, _, rfl, x_01 (by decide), h⟩
  · have h := hF3 (Int.not_lt.mp c)
    refine xr_iload_n dX11_end_4 rfl ?_
    refine xr_aload_n dX11_end_5 rfl ?_
    refine xr_getI' (v := μ 0 1) dX11_end_6 fl_X11_78 L_0 rfl rfl rfl ?_
    obtain ⟨q4, hT5, hF6⟩ := h
    refine xr_icmp_le (tgt := 14) dX11_end_9 (by decide) q1 q4 (fun c => ?_) (fun c => ?_)
    · have h := hT5 c
      refine xr_aload_n dX11_end_14 rfl ?_
      refine xr_iload_n dX11_end_15 rfl ?_
      refine xr_putI dX11_end_16 fp_X11_78 L_0 rfl rfl ⟨rfl, rfl⟩ ?_
      refine xr_iconst dX11_end_19 ?_
      exact xr_zret dX11_end_20 rfl (x_nz (by decide)).1 ⟨rfl, _, rfl, x_01 (by decide), h⟩
    · have h := hF6 (Int.not_le.mp c)
      refine xr_iconst dX11_end_12 ?_
      exact xr_zret dX11_end_13 rfl (x_nz (by decide)).1 ⟨rfl, _, rfl, x_01 (by decide), h⟩
theorem dX11_next_0 : decode cX11_next 0 = .ok (.iload_n 1, 1) := by decide +kernel
theorem dX11_next_1 : decode cX11_next 1 = .ok (.ifCond .lt 22, 3) := by decide +kernel
theorem dX11_next_4 : decode cX11_next 4 = .ok (.iload_n 1, 1) := by decide +kernel
theorem dX11_next_5 : decode cX11_next 5 = .ok (.sipush 999, 3) := by decide +kernel
theorem dX11_next_8 : decode cX11_next 8 = .ok (.if_icmp .gt 15, 3) := by decide +kernel
theorem dX11_next_11 : decode cX11_next 11 = .ok (.aload_n 0, 1) := by decide +kernel
theorem dX11_next_12 : decode cX11_next 12 = .ok (.getfield 86, 3) := by decide +kernel
theorem dX11_next_15 : decode cX11_next 15 = .ok (.iload_n 1, 1) := by decide +kernel
theorem dX11_next_16 : decode cX11_next 16 = .ok (.iadd, 1) := by decide +kernel
theorem dX11_next_17 : decode cX11_next 17 = .ok (.sipush 999, 3) := by decide +kernel
theorem dX11_next_20 : decode cX11_next 20 = .ok (.if_icmp .le 5, 3) := by decide +kernel
theorem dX11_next_23 : decode cX11_next 23 = .ok (.iconst (-1), 1) := by decide +kernel
theorem dX11_next_24 : decode cX11_next 24 = .ok (.ireturn, 1) := by decide +kernel
theorem dX11_next_25 : decode cX11_next 25 = .ok (.aload_n 0, 1) := by decide +kernel
theorem dX11_next_26 : decode cX11_next 26 = .ok (.dup, 1) := by decide +kernel
theorem dX11_next_27 : decode cX11_next 27 = .ok (.getfield 86, 3) := by decide +kernel
theorem dX11_next_30 : decode cX11_next 30 = .ok (.iload_n 1, 1) := by decide +kernel
theorem dX11_next_31 : decode cX11_next 31 = .ok (.iadd, 1) := by decide +kernel
theorem dX11_next_32 : decode cX11_next 32 = .ok (.putfield 86, 3) := by decide +kernel
theorem dX11_next_35 : decode cX11_next 35 = .ok (.aload_n 0, 1) := by decide +kernel
theorem dX11_next_36 : decode cX11_next 36 = .ok (.getfield 86, 3) := by decide +kernel
theorem dX11_next_39 : decode cX11_next 39 = .ok (.ireturn, 1) := by decide +kernel
set_option maxRecDepth 20000 in
theorem E_X11_next {G : xG} {l : Launch} {d : Nat} {P : Int → xMem → Prop} {v1 : Int} {μ : xMem} (h : (iR v1 ∧ (v1 < 0 → P (-1) μ) ∧ (0 ≤ v1 → ((999 < v1 → P (-1) μ) ∧ (v1 ≤ 999 → (iR ((μ 0 2) + v1) ∧ (((μ 0 2) + v1) ≤ 999 → P ((μ 0 2) + v1) (st2 μ 0 2 ((μ 0 2) + v1))) ∧ (999 < ((μ 0 2) + v1) → P (-1) μ))))))) : CI G l (d + 1) mX11_next [xr G 0, xi v1] μ P := by
  refine CC.ofRR (ll := [some (xr G 0), some (xi v1)]) (by decide +kernel) (Nat.le_of_ble_eq_true rfl) rfl (fun h => by cases h) ?_
  refine xr_iload_n dX11_next_0 rfl ?_
  obtain ⟨q1, hT2, hF3⟩ := h
  refine xr_if_lt (tgt := 23) dX11_next_1 (by decide) q1  (fun c => ?_) (fun c => ?_)
  · have h := hT2 c
    refine xr_iconst dX11_next_23 ?_
    exact xr_iret dX11_next_24 rfl ⟨rfl, _, rfl, (by decide), h⟩
  · have h := hF3 (Int.not_lt.mp c)
    refine xr_iload_n dX11_next_4 rfl ?_
    refine xr_sipush dX11_next_5 (by decide) ?_
    obtain ⟨hT4, hF5⟩ := h
    refine xr_icmp_gt (tgt := 23) dX11_next_8 (by decide) q1 (by decide) (fun c => ?_) (fun c => ?_)
    · have h := hT4 c
      refine xr_iconst dX11_next_23 ?_
      exact xr_iret dX11_next_24 rfl ⟨rfl, _, rfl, (by decide), h⟩
    · have h := hF5 (Int.not_lt.mp c)
      refine xr_aload_n dX11_next_11 rfl ?_
      refine xr_getI' (v := μ 0 2) dX11_next_12 fl_X11_86 L_0 rfl rfl rfl ?_
      refine xr_iload_n dX11_next_15 rfl ?_
      refine xr_iadd dX11_next_16 ?_
      refine xr_sipush dX11_next_17 (by decide) ?_
      obtain ⟨q6, hT7, hF8⟩ := h
      refine xr_icmp_le (tgt := 25) dX11_next_20 (by decide) q6 (by decide) (fun c => ?_) (fun c => ?_)
      · have h := hT7 c
        refine xr_aload_n dX11_next_25 rfl ?_
        refine xr_dup dX11_next_26 rfl ?_
        refine xr_getI' (v := μ 0 2) dX11_next_27 fl_X11_86 L_0 rfl rfl rfl ?_
        refine xr_iload_n dX11_next_30 rfl ?_
        refine xr_iadd dX11_next_31 ?_
        refine xr_putI dX11_next_32 fp_X11_86 L_0 rfl rfl ⟨rfl, rfl⟩ ?_
        refine xr_aload_n dX11_next_35 rfl ?_
        refine xr_getI' (v := (μ 0 2) + v1) dX11_next_36 fl_X11_86 L_0 rfl rfl (by simp [st2, cpy]) ?_
        exact xr_iret dX11_next_39 rfl ⟨rfl, _, rfl, q6, h⟩
      · have h := hF8 (Int.not_le.mp c)
        refine xr_iconst dX11_next_23 ?_
        exact xr_iret dX11_next_24 rfl ⟨rfl, _, rfl, (by decide), h⟩
theorem dX11_word_0 : decode cX11_word 0 = .ok (.aload_n 0, 1) := by decide +kernel
theorem dX11_word_1 : decode cX11_word 1 = .ok (.invokevirtual 89, 3) := by decide +kernel
theorem dX11_word_4 : decode cX11_word 4 = .ok (.istore_n 1, 1) := by decide +kernel
theorem dX11_word_5 : decode cX11_word 5 = .ok (.aload_n 0, 1) := by decide +kernel
theorem dX11_word_6 : decode cX11_word 6 = .ok (.getfield 19, 3) := by decide +kernel
theorem dX11_word_9 : decode cX11_word 9 = .ok (.aload_n 0, 1) := by decide +kernel
theorem dX11_word_10 : decode cX11_word 10 = .ok (.getfield 9, 3) := by decide +kernel
theorem dX11_word_13 : decode cX11_word 13 = .ok (.iload_n 1, 1) := by decide +kernel
theorem dX11_word_14 : decode cX11_word 14 = .ok (.aload_n 0, 1) := by decide +kernel
theorem dX11_word_15 : decode cX11_word 15 = .ok (.getfield 86, 3) := by decide +kernel
theorem dX11_word_18 : decode cX11_word 18 = .ok (.invokevirtual 93, 3) := by decide +kernel
theorem dX11_word_21 : decode cX11_word 21 = .ok (.ireturn, 1) := by decide +kernel
set_option maxRecDepth 20000 in
theorem E_X11_word {G : xG} {l : Launch} {d : Nat} {P : Int → xMem → Prop} {μ : xMem} (h : CI G l d mX11_takeTape [xr G 0] μ (fun r1 m2 => CI G l d mX3_addWord [xr G 3, xr G 1, xi r1, xi (m2 0 2)] m2 (fun r3 m4 => P r3 m4))) : CI G l (d + 1) mX11_word [xr G 0] μ P := by
  refine CC.ofRR (ll := [some (xr G 0), none]) (by decide +kernel) (Nat.le_of_ble_eq_true rfl) rfl (fun h => by cases h) ?_
  refine xr_aload_n dX11_word_0 rfl ?_
  refine xr_cvI (As := []) dX11_word_1 mi_X11_takeTape ml_X11_89 se_X11_takeTape L_0 rfl rfl rfl (Nat.le_of_ble_eq_true rfl) h (fun r1 m2 hr1 h => ?_)
  refine xr_istore_n' (ll' := [some (xr G 0), some (xi r1)]) dX11_word_4 (by decide) rfl rfl ?_
  refine xr_aload_n dX11_word_5 rfl ?_
  refine xr_getR dX11_word_6 fl_X11_19 L_0 rfl ?_
  refine xr_aload_n dX11_word_9 rfl ?_
  refine xr_getR dX11_word_10 fl_X11_9 L_0 rfl ?_
  refine xr_iload_n dX11_word_13 rfl ?_
  refine xr_aload_n dX11_word_14 rfl ?_
  refine xr_getI' (v := m2 0 2) dX11_word_15 fl_X11_86 L_0 rfl rfl rfl ?_
  refine xr_cvI (As := [xr G 1, xi r1, xi (m2 0 2)]) dX11_word_18 mi_X3_addWord ml_X11_93 se_X3_addWord L_3 rfl rfl rfl (Nat.le_of_ble_eq_true rfl) h (fun r3 m4 hr3 h => ?_)
  exact xr_iret dX11_word_21 rfl ⟨rfl, _, rfl, hr3, h⟩
theorem dX11_means_0 : decode cX11_means 0 = .ok (.aload_n 0, 1) := by decide +kernel
theorem dX11_means_1 : decode cX11_means 1 = .ok (.getfield 19, 3) := by decide +kernel
theorem dX11_means_4 : decode cX11_means 4 = .ok (.iload_n 1, 1) := by decide +kernel
theorem dX11_means_5 : decode cX11_means 5 = .ok (.iload_n 2, 1) := by decide +kernel
theorem dX11_means_6 : decode cX11_means 6 = .ok (.aload_n 0, 1) := by decide +kernel
theorem dX11_means_7 : decode cX11_means 7 = .ok (.getfield 86, 3) := by decide +kernel
theorem dX11_means_10 : decode cX11_means 10 = .ok (.invokevirtual 97, 3) := by decide +kernel
theorem dX11_means_13 : decode cX11_means 13 = .ok (.ireturn, 1) := by decide +kernel
set_option maxRecDepth 20000 in
theorem E_X11_means {G : xG} {l : Launch} {d : Nat} {P : Int → xMem → Prop} {v1 v2 : Int} {μ : xMem} (h : CI G l d mX3_addMeaning [xr G 3, xi v1, xi v2, xi (μ 0 2)] μ (fun r1 m2 => ((r1 = 0 ∨ r1 = 1) ∧ P r1 m2))) : CI G l (d + 1) mX11_means [xr G 0, xi v1, xi v2] μ P := by
  refine CC.ofRR (ll := [some (xr G 0), some (xi v1), some (xi v2)]) (by decide +kernel) (Nat.le_of_ble_eq_true rfl) rfl (fun h => by cases h) ?_
  refine xr_aload_n dX11_means_0 rfl ?_
  refine xr_getR dX11_means_1 fl_X11_19 L_0 rfl ?_
  refine xr_iload_n dX11_means_4 rfl ?_
  refine xr_iload_n dX11_means_5 rfl ?_
  refine xr_aload_n dX11_means_6 rfl ?_
  refine xr_getI' (v := μ 0 2) dX11_means_7 fl_X11_86 L_0 rfl rfl rfl ?_
  refine xr_cvI (As := [xi v1, xi v2, xi (μ 0 2)]) dX11_means_10 mi_X3_addMeaning ml_X11_97 se_X3_addMeaning L_3 rfl rfl rfl (Nat.le_of_ble_eq_true rfl) h (fun r1 m2 hr1 h => ?_)
  obtain ⟨q3, h⟩ := h
  exact xr_zret dX11_means_13 rfl (x_nz q3).1 ⟨rfl, _, rfl, x_01 q3, h⟩
theorem dX11_sign_0 : decode cX11_sign 0 = .ok (.aload_n 0, 1) := by decide +kernel
theorem dX11_sign_1 : decode cX11_sign 1 = .ok (.getfield 19, 3) := by decide +kernel
theorem dX11_sign_4 : decode cX11_sign 4 = .ok (.iload_n 1, 1) := by decide +kernel
theorem dX11_sign_5 : decode cX11_sign 5 = .ok (.iload_n 2, 1) := by decide +kernel
theorem dX11_sign_6 : decode cX11_sign 6 = .ok (.aload_n 0, 1) := by decide +kernel
theorem dX11_sign_7 : decode cX11_sign 7 = .ok (.getfield 86, 3) := by decide +kernel
theorem dX11_sign_10 : decode cX11_sign 10 = .ok (.invokevirtual 101, 3) := by decide +kernel
theorem dX11_sign_13 : decode cX11_sign 13 = .ok (.ireturn, 1) := by decide +kernel
set_option maxRecDepth 20000 in
theorem E_X11_sign {G : xG} {l : Launch} {d : Nat} {P : Int → xMem → Prop} {v1 v2 : Int} {μ : xMem} (h : CI G l d mX3_addSign [xr G 3, xi v1, xi v2, xi (μ 0 2)] μ (fun r1 m2 => ((r1 = 0 ∨ r1 = 1) ∧ P r1 m2))) : CI G l (d + 1) mX11_sign [xr G 0, xi v1, xi v2] μ P := by
  refine CC.ofRR (ll := [some (xr G 0), some (xi v1), some (xi v2)]) (by decide +kernel) (Nat.le_of_ble_eq_true rfl) rfl (fun h => by cases h) ?_
  refine xr_aload_n dX11_sign_0 rfl ?_
  refine xr_getR dX11_sign_1 fl_X11_19 L_0 rfl ?_
  refine xr_iload_n dX11_sign_4 rfl ?_
  refine xr_iload_n dX11_sign_5 rfl ?_
  refine xr_aload_n dX11_sign_6 rfl ?_
  refine xr_getI' (v := μ 0 2) dX11_sign_7 fl_X11_86 L_0 rfl rfl rfl ?_
  refine xr_cvI (As := [xi v1, xi v2, xi (μ 0 2)]) dX11_sign_10 mi_X3_addSign ml_X11_101 se_X3_addSign L_3 rfl rfl rfl (Nat.le_of_ble_eq_true rfl) h (fun r1 m2 hr1 h => ?_)
  obtain ⟨q3, h⟩ := h
  exact xr_zret dX11_sign_13 rfl (x_nz q3).1 ⟨rfl, _, rfl, x_01 q3, h⟩
theorem dX11_clue_0 : decode cX11_clue 0 = .ok (.aload_n 0, 1) := by decide +kernel
theorem dX11_clue_1 : decode cX11_clue 1 = .ok (.invokevirtual 89, 3) := by decide +kernel
theorem dX11_clue_4 : decode cX11_clue 4 = .ok (.istore_n 3, 1) := by decide +kernel
theorem dX11_clue_5 : decode cX11_clue 5 = .ok (.iconst 0, 1) := by decide +kernel
theorem dX11_clue_6 : decode cX11_clue 6 = .ok (.istore 4, 2) := by decide +kernel
theorem dX11_clue_8 : decode cX11_clue 8 = .ok (.iload 4, 2) := by decide +kernel
theorem dX11_clue_10 : decode cX11_clue 10 = .ok (.iload_n 3, 1) := by decide +kernel
theorem dX11_clue_11 : decode cX11_clue 11 = .ok (.if_icmp .ge 28, 3) := by decide +kernel
theorem dX11_clue_14 : decode cX11_clue 14 = .ok (.aload_n 0, 1) := by decide +kernel
theorem dX11_clue_15 : decode cX11_clue 15 = .ok (.getfield 19, 3) := by decide +kernel
theorem dX11_clue_18 : decode cX11_clue 18 = .ok (.aload_n 0, 1) := by decide +kernel
theorem dX11_clue_19 : decode cX11_clue 19 = .ok (.getfield 9, 3) := by decide +kernel
theorem dX11_clue_22 : decode cX11_clue 22 = .ok (.iload 4, 2) := by decide +kernel
theorem dX11_clue_24 : decode cX11_clue 24 = .ok (.iaload, 1) := by decide +kernel
theorem dX11_clue_25 : decode cX11_clue 25 = .ok (.invokevirtual 104, 3) := by decide +kernel
theorem dX11_clue_28 : decode cX11_clue 28 = .ok (.ifCond .ne 5, 3) := by decide +kernel
theorem dX11_clue_31 : decode cX11_clue 31 = .ok (.iconst (-1), 1) := by decide +kernel
theorem dX11_clue_32 : decode cX11_clue 32 = .ok (.ireturn, 1) := by decide +kernel
theorem dX11_clue_33 : decode cX11_clue 33 = .ok (.iinc 4 1, 3) := by decide +kernel
theorem dX11_clue_36 : decode cX11_clue 36 = .ok (.goto (-28), 3) := by decide +kernel
theorem dX11_clue_39 : decode cX11_clue 39 = .ok (.aload_n 0, 1) := by decide +kernel
theorem dX11_clue_40 : decode cX11_clue 40 = .ok (.getfield 26, 3) := by decide +kernel
theorem dX11_clue_43 : decode cX11_clue 43 = .ok (.iload_n 1, 1) := by decide +kernel
theorem dX11_clue_44 : decode cX11_clue 44 = .ok (.iload_n 2, 1) := by decide +kernel
theorem dX11_clue_45 : decode cX11_clue 45 = .ok (.aload_n 0, 1) := by decide +kernel
theorem dX11_clue_46 : decode cX11_clue 46 = .ok (.getfield 9, 3) := by decide +kernel
theorem dX11_clue_49 : decode cX11_clue 49 = .ok (.iload_n 3, 1) := by decide +kernel
theorem dX11_clue_50 : decode cX11_clue 50 = .ok (.aload_n 0, 1) := by decide +kernel
theorem dX11_clue_51 : decode cX11_clue 51 = .ok (.getfield 86, 3) := by decide +kernel
theorem dX11_clue_54 : decode cX11_clue 54 = .ok (.invokevirtual 108, 3) := by decide +kernel
theorem dX11_clue_57 : decode cX11_clue 57 = .ok (.ireturn, 1) := by decide +kernel
def K_X11_clue_8 (G : xG) (l : Launch) (d : Nat) (P : Int → xMem → Prop) (v1 v2 v3 v4 : Int) (μ : xMem) : Prop := RR G l d 0 0 false mX11_clue (qI P) 8 [some (xr G 0), some (xi v1), some (xi v2), some (xi v3), some (xi v4)] [] LAY μ 0 0
set_option maxRecDepth 20000 in
theorem E_X11_clue {G : xG} {l : Launch} {d : Nat} {P : Int → xMem → Prop} {v1 v2 : Int} {μ : xMem} (h : CI G l d mX11_takeTape [xr G 0] μ (fun r1 m2 => K_X11_clue_8 G l (d + 1) P v1 v2 r1 0 m2)) : CI G l (d + 1) mX11_clue [xr G 0, xi v1, xi v2] μ P := by
  refine CC.ofRR (ll := [some (xr G 0), some (xi v1), some (xi v2), none, none]) (by decide +kernel) (Nat.le_of_ble_eq_true rfl) rfl (fun h => by cases h) ?_
  refine xr_aload_n dX11_clue_0 rfl ?_
  refine xr_cvI (As := []) dX11_clue_1 mi_X11_takeTape ml_X11_89 se_X11_takeTape L_0 rfl rfl rfl (Nat.le_of_ble_eq_true rfl) h (fun r1 m2 hr1 h => ?_)
  refine xr_istore_n' (ll' := [some (xr G 0), some (xi v1), some (xi v2), some (xi r1), none]) dX11_clue_4 (by decide) rfl rfl ?_
  refine xr_iconst dX11_clue_5 ?_
  refine xr_istore' (ll' := [some (xr G 0), some (xi v1), some (xi v2), some (xi r1), some (xi 0)]) dX11_clue_6 (by decide) rfl rfl ?_
  exact h
set_option maxRecDepth 20000 in
theorem B_X11_clue_8 {G : xG} {l : Launch} {d : Nat} {P : Int → xMem → Prop} {v1 v2 v3 v4 : Int} {μ : xMem} (h : (iR v4 ∧ iR v3 ∧ (v3 ≤ v4 → CI G l d mX0_tell [xr G 19, xi v1, xi v2, xr G 1, xi v3, xi (μ 0 2)] μ (fun r5 m6 => P r5 m6)) ∧ (v4 < v3 → ((0 ≤ v4 ∧ v4 < 180) ∧ CI G l d mX3_hasWord [xr G 3, xi (μ 1 v4)] μ (fun r8 m9 => ((r8 ≠ 0 → K_X11_clue_8 G l (d + 1) P v1 v2 v3 (v4 + 1) m9) ∧ (r8 = 0 → P (-1) m9))))))) : K_X11_clue_8 G l (d + 1) P v1 v2 v3 v4 μ := by
  unfold K_X11_clue_8
  refine xr_iload dX11_clue_8 rfl ?_
  refine xr_iload_n dX11_clue_10 rfl ?_
  obtain ⟨q1, q2, hT3, hF4⟩ := h
  refine xr_icmp_ge (tgt := 39) dX11_clue_11 (by decide) q1 q2 (fun c => ?_) (fun c => ?_)
  · have h := hT3 c
    refine xr_aload_n dX11_clue_39 rfl ?_
    refine xr_getR dX11_clue_40 fl_X11_26 L_0 rfl ?_
    refine xr_iload_n dX11_clue_43 rfl ?_
    refine xr_iload_n dX11_clue_44 rfl ?_
    refine xr_aload_n dX11_clue_45 rfl ?_
    refine xr_getR dX11_clue_46 fl_X11_9 L_0 rfl ?_
    refine xr_iload_n dX11_clue_49 rfl ?_
    refine xr_aload_n dX11_clue_50 rfl ?_
    refine xr_getI' (v := μ 0 2) dX11_clue_51 fl_X11_86 L_0 rfl rfl rfl ?_
    refine xr_cvI (As := [xi v1, xi v2, xr G 1, xi v3, xi (μ 0 2)]) dX11_clue_54 mi_X0_tell ml_X11_108 se_X0_tell L_19 rfl rfl rfl (Nat.le_of_ble_eq_true rfl) h (fun r5 m6 hr5 h => ?_)
    exact xr_iret dX11_clue_57 rfl ⟨rfl, _, rfl, hr5, h⟩
  · have h := hF4 (Int.not_le.mp c)
    refine xr_aload_n dX11_clue_14 rfl ?_
    refine xr_getR dX11_clue_15 fl_X11_19 L_0 rfl ?_
    refine xr_aload_n dX11_clue_18 rfl ?_
    refine xr_getR dX11_clue_19 fl_X11_9 L_0 rfl ?_
    refine xr_iload dX11_clue_22 rfl ?_
    obtain ⟨q7, h⟩ := h
    refine xr_iaload' (v := μ 1 v4) dX11_clue_24 L_1 rfl (by decide) q7 rfl ?_
    refine xr_cvI (As := [xi (μ 1 v4)]) dX11_clue_25 mi_X3_hasWord ml_X11_104 se_X3_hasWord L_3 rfl rfl rfl (Nat.le_of_ble_eq_true rfl) h (fun r8 m9 hr8 h => ?_)
    obtain ⟨hT10, hF11⟩ := h
    refine xr_if_ne (tgt := 33) dX11_clue_28 (by decide) hr8  (fun c => ?_) (fun c => ?_)
    · have h := hT10 c
      refine xr_iinc' (ll' := [some (xr G 0), some (xi v1), some (xi v2), some (xi v3), some (xi (v4 + 1))]) dX11_clue_33 rfl (by decide) rfl rfl ?_
      refine xr_goto (tgt := 8) dX11_clue_36 (by decide) ?_
      exact h
    · have h := hF11 c
      refine xr_iconst dX11_clue_31 ?_
      exact xr_iret dX11_clue_32 rfl ⟨rfl, _, rfl, (by decide), h⟩
theorem dX11_light_0 : decode cX11_light 0 = .ok (.aload_n 0, 1) := by decide +kernel
theorem dX11_light_1 : decode cX11_light 1 = .ok (.getfield 26, 3) := by decide +kernel
theorem dX11_light_4 : decode cX11_light 4 = .ok (.iload_n 1, 1) := by decide +kernel
theorem dX11_light_5 : decode cX11_light 5 = .ok (.invokevirtual 112, 3) := by decide +kernel
theorem dX11_light_8 : decode cX11_light 8 = .ok (.ifCond .ne 5, 3) := by decide +kernel
theorem dX11_light_11 : decode cX11_light 11 = .ok (.iconst 0, 1) := by decide +kernel
theorem dX11_light_12 : decode cX11_light 12 = .ok (.ireturn, 1) := by decide +kernel
theorem dX11_light_13 : decode cX11_light 13 = .ok (.aload_n 0, 1) := by decide +kernel
theorem dX11_light_14 : decode cX11_light 14 = .ok (.getfield 51, 3) := by decide +kernel
theorem dX11_light_17 : decode cX11_light 17 = .ok (.iload_n 1, 1) := by decide +kernel
theorem dX11_light_18 : decode cX11_light 18 = .ok (.iload_n 2, 1) := by decide +kernel
theorem dX11_light_19 : decode cX11_light 19 = .ok (.iload_n 3, 1) := by decide +kernel
theorem dX11_light_20 : decode cX11_light 20 = .ok (.iload 4, 2) := by decide +kernel
theorem dX11_light_22 : decode cX11_light 22 = .ok (.aload_n 0, 1) := by decide +kernel
theorem dX11_light_23 : decode cX11_light 23 = .ok (.getfield 26, 3) := by decide +kernel
theorem dX11_light_26 : decode cX11_light 26 = .ok (.getfield 115, 3) := by decide +kernel
theorem dX11_light_29 : decode cX11_light 29 = .ok (.iload_n 1, 1) := by decide +kernel
theorem dX11_light_30 : decode cX11_light 30 = .ok (.iaload, 1) := by decide +kernel
theorem dX11_light_31 : decode cX11_light 31 = .ok (.invokevirtual 118, 3) := by decide +kernel
theorem dX11_light_34 : decode cX11_light 34 = .ok (.ireturn, 1) := by decide +kernel
set_option maxRecDepth 20000 in
theorem E_X11_light {G : xG} {l : Launch} {d : Nat} {P : Int → xMem → Prop} {v1 v2 v3 v4 : Int} {μ : xMem} (h : CI G l d mX0_isTold [xr G 19, xi v1] μ (fun r1 m2 => ((r1 ≠ 0 → ((0 ≤ v1 ∧ v1 < 16) ∧ CI G l d mX2_addLight [xr G 46, xi v1, xi v2, xi v3, xi v4, xi (m2 25 v1)] m2 (fun r6 m7 => ((r6 = 0 ∨ r6 = 1) ∧ P r6 m7)))) ∧ (r1 = 0 → P 0 m2)))) : CI G l (d + 1) mX11_light [xr G 0, xi v1, xi v2, xi v3, xi v4] μ P := by
  refine CC.ofRR (ll := [some (xr G 0), some (xi v1), some (xi v2), some (xi v3), some (xi v4)]) (by decide +kernel) (Nat.le_of_ble_eq_true rfl) rfl (fun h => by cases h) ?_
  refine xr_aload_n dX11_light_0 rfl ?_
  refine xr_getR dX11_light_1 fl_X11_26 L_0 rfl ?_
  refine xr_iload_n dX11_light_4 rfl ?_
  refine xr_cvI (As := [xi v1]) dX11_light_5 mi_X0_isTold ml_X11_112 se_X0_isTold L_19 rfl rfl rfl (Nat.le_of_ble_eq_true rfl) h (fun r1 m2 hr1 h => ?_)
  obtain ⟨hT3, hF4⟩ := h
  refine xr_if_ne (tgt := 13) dX11_light_8 (by decide) hr1  (fun c => ?_) (fun c => ?_)
  · have h := hT3 c
    refine xr_aload_n dX11_light_13 rfl ?_
    refine xr_getR dX11_light_14 fl_X11_51 L_0 rfl ?_
    refine xr_iload_n dX11_light_17 rfl ?_
    refine xr_iload_n dX11_light_18 rfl ?_
    refine xr_iload_n dX11_light_19 rfl ?_
    refine xr_iload dX11_light_20 rfl ?_
    refine xr_aload_n dX11_light_22 rfl ?_
    refine xr_getR dX11_light_23 fl_X11_26 L_0 rfl ?_
    refine xr_getR dX11_light_26 fl_X11_115 L_19 rfl ?_
    refine xr_iload_n dX11_light_29 rfl ?_
    obtain ⟨q5, h⟩ := h
    refine xr_iaload' (v := m2 25 v1) dX11_light_30 L_25 rfl (by decide) q5 rfl ?_
    refine xr_cvI (As := [xi v1, xi v2, xi v3, xi v4, xi (m2 25 v1)]) dX11_light_31 mi_X2_addLight ml_X11_118 se_X2_addLight L_46 rfl rfl rfl (Nat.le_of_ble_eq_true rfl) h (fun r6 m7 hr6 h => ?_)
    obtain ⟨q8, h⟩ := h
    exact xr_zret dX11_light_34 rfl (x_nz q8).1 ⟨rfl, _, rfl, x_01 q8, h⟩
  · have h := hF4 c
    refine xr_iconst dX11_light_11 ?_
    exact xr_zret dX11_light_12 rfl (x_nz (by decide)).1 ⟨rfl, _, rfl, x_01 (by decide), h⟩
theorem dX11_solution_0 : decode cX11_solution 0 = .ok (.aload_n 0, 1) := by decide +kernel
theorem dX11_solution_1 : decode cX11_solution 1 = .ok (.getfield 51, 3) := by decide +kernel
theorem dX11_solution_4 : decode cX11_solution 4 = .ok (.iload_n 1, 1) := by decide +kernel
theorem dX11_solution_5 : decode cX11_solution 5 = .ok (.invokevirtual 122, 3) := by decide +kernel
theorem dX11_solution_8 : decode cX11_solution 8 = .ok (.ifCond .eq 35, 3) := by decide +kernel
theorem dX11_solution_11 : decode cX11_solution 11 = .ok (.aload_n 0, 1) := by decide +kernel
theorem dX11_solution_12 : decode cX11_solution 12 = .ok (.getfield 19, 3) := by decide +kernel
theorem dX11_solution_15 : decode cX11_solution 15 = .ok (.iload_n 2, 1) := by decide +kernel
theorem dX11_solution_16 : decode cX11_solution 16 = .ok (.invokevirtual 104, 3) := by decide +kernel
theorem dX11_solution_19 : decode cX11_solution 19 = .ok (.ifCond .eq 24, 3) := by decide +kernel
theorem dX11_solution_22 : decode cX11_solution 22 = .ok (.aload_n 0, 1) := by decide +kernel
theorem dX11_solution_23 : decode cX11_solution 23 = .ok (.getfield 19, 3) := by decide +kernel
theorem dX11_solution_26 : decode cX11_solution 26 = .ok (.getfield 125, 3) := by decide +kernel
theorem dX11_solution_29 : decode cX11_solution 29 = .ok (.iload_n 2, 1) := by decide +kernel
theorem dX11_solution_30 : decode cX11_solution 30 = .ok (.iaload, 1) := by decide +kernel
theorem dX11_solution_31 : decode cX11_solution 31 = .ok (.aload_n 0, 1) := by decide +kernel
theorem dX11_solution_32 : decode cX11_solution 32 = .ok (.getfield 51, 3) := by decide +kernel
theorem dX11_solution_35 : decode cX11_solution 35 = .ok (.getfield 126, 3) := by decide +kernel
theorem dX11_solution_38 : decode cX11_solution 38 = .ok (.iload_n 1, 1) := by decide +kernel
theorem dX11_solution_39 : decode cX11_solution 39 = .ok (.iaload, 1) := by decide +kernel
theorem dX11_solution_40 : decode cX11_solution 40 = .ok (.if_icmp .eq 5, 3) := by decide +kernel
theorem dX11_solution_43 : decode cX11_solution 43 = .ok (.iconst 0, 1) := by decide +kernel
theorem dX11_solution_44 : decode cX11_solution 44 = .ok (.ireturn, 1) := by decide +kernel
theorem dX11_solution_45 : decode cX11_solution 45 = .ok (.aload_n 0, 1) := by decide +kernel
theorem dX11_solution_46 : decode cX11_solution 46 = .ok (.getfield 51, 3) := by decide +kernel
theorem dX11_solution_49 : decode cX11_solution 49 = .ok (.iload_n 1, 1) := by decide +kernel
theorem dX11_solution_50 : decode cX11_solution 50 = .ok (.iload_n 2, 1) := by decide +kernel
theorem dX11_solution_51 : decode cX11_solution 51 = .ok (.aload_n 0, 1) := by decide +kernel
theorem dX11_solution_52 : decode cX11_solution 52 = .ok (.getfield 86, 3) := by decide +kernel
theorem dX11_solution_55 : decode cX11_solution 55 = .ok (.invokevirtual 127, 3) := by decide +kernel
theorem dX11_solution_58 : decode cX11_solution 58 = .ok (.ireturn, 1) := by decide +kernel
set_option maxRecDepth 20000 in
theorem E_X11_solution {G : xG} {l : Launch} {d : Nat} {P : Int → xMem → Prop} {v1 v2 : Int} {μ : xMem} (h : CI G l d mX2_hasLight [xr G 46, xi v1] μ (fun r1 m2 => ((r1 = 0 → P 0 m2) ∧ (r1 ≠ 0 → CI G l d mX3_hasWord [xr G 3, xi v2] m2 (fun r5 m6 => ((r5 = 0 → P 0 m6) ∧ (r5 ≠ 0 → ((0 ≤ v2 ∧ v2 < 120) ∧ ((0 ≤ v1 ∧ v1 < 16) ∧ (iR (m6 14 v2) ∧ iR (m6 49 v1) ∧ ((m6 14 v2) = (m6 49 v1) → CI G l d mX2_addSolution [xr G 46, xi v1, xi v2, xi (m6 0 2)] m6 (fun r15 m16 => ((r15 = 0 ∨ r15 = 1) ∧ P r15 m16))) ∧ ((m6 14 v2) ≠ (m6 49 v1) → P 0 m6))))))))))) : CI G l (d + 1) mX11_solution [xr G 0, xi v1, xi v2] μ P := by
  refine CC.ofRR (ll := [some (xr G 0), some (xi v1), some (xi v2)]) (by decide +kernel) (Nat.le_of_ble_eq_true rfl) rfl (fun h => by cases h) ?_
  refine xr_aload_n dX11_solution_0 rfl ?_
  refine xr_getR dX11_solution_1 fl_X11_51 L_0 rfl ?_
  refine xr_iload_n dX11_solution_4 rfl ?_
  refine xr_cvI (As := [xi v1]) dX11_solution_5 mi_X2_hasLight ml_X11_122 se_X2_hasLight L_46 rfl rfl rfl (Nat.le_of_ble_eq_true rfl) h (fun r1 m2 hr1 h => ?_)
  obtain ⟨hT3, hF4⟩ := h
  refine xr_if_eq (tgt := 43) dX11_solution_8 (by decide) hr1  (fun c => ?_) (fun c => ?_)
  · have h := hT3 c
    refine xr_iconst dX11_solution_43 ?_
    exact xr_zret dX11_solution_44 rfl (x_nz (by decide)).1 ⟨rfl, _, rfl, x_01 (by decide), h⟩
  · have h := hF4 c
    refine xr_aload_n dX11_solution_11 rfl ?_
    refine xr_getR dX11_solution_12 fl_X11_19 L_0 rfl ?_
    refine xr_iload_n dX11_solution_15 rfl ?_
    refine xr_cvI (As := [xi v2]) dX11_solution_16 mi_X3_hasWord ml_X11_104 se_X3_hasWord L_3 rfl rfl rfl (Nat.le_of_ble_eq_true rfl) h (fun r5 m6 hr5 h => ?_)
    obtain ⟨hT7, hF8⟩ := h
    refine xr_if_eq (tgt := 43) dX11_solution_19 (by decide) hr5  (fun c => ?_) (fun c => ?_)
    · have h := hT7 c
      refine xr_iconst dX11_solution_43 ?_
      exact xr_zret dX11_solution_44 rfl (x_nz (by decide)).1 ⟨rfl, _, rfl, x_01 (by decide), h⟩
    · have h := hF8 c
      refine xr_aload_n dX11_solution_22 rfl ?_
      refine xr_getR dX11_solution_23 fl_X11_19 L_0 rfl ?_
      refine xr_getR dX11_solution_26 fl_X11_125 L_3 rfl ?_
      refine xr_iload_n dX11_solution_29 rfl ?_
      obtain ⟨q9, h⟩ := h
      refine xr_iaload' (v := m6 14 v2) dX11_solution_30 L_14 rfl (by decide) q9 rfl ?_
      refine xr_aload_n dX11_solution_31 rfl ?_
      refine xr_getR dX11_solution_32 fl_X11_51 L_0 rfl ?_
      refine xr_getR dX11_solution_35 fl_X11_126 L_46 rfl ?_
      refine xr_iload_n dX11_solution_38 rfl ?_
      obtain ⟨q10, h⟩ := h
      refine xr_iaload' (v := m6 49 v1) dX11_solution_39 L_49 rfl (by decide) q10 rfl ?_
      obtain ⟨q11, q12, hT13, hF14⟩ := h
      refine xr_icmp_eq (tgt := 45) dX11_solution_40 (by decide) q11 q12 (fun c => ?_) (fun c => ?_)
      · have h := hT13 c
        refine xr_aload_n dX11_solution_45 rfl ?_
        refine xr_getR dX11_solution_46 fl_X11_51 L_0 rfl ?_
        refine xr_iload_n dX11_solution_49 rfl ?_
        refine xr_iload_n dX11_solution_50 rfl ?_
        refine xr_aload_n dX11_solution_51 rfl ?_
        refine xr_getI' (v := m6 0 2) dX11_solution_52 fl_X11_86 L_0 rfl rfl rfl ?_
        refine xr_cvI (As := [xi v1, xi v2, xi (m6 0 2)]) dX11_solution_55 mi_X2_addSolution ml_X11_127 se_X2_addSolution L_46 rfl rfl rfl (Nat.le_of_ble_eq_true rfl) h (fun r15 m16 hr15 h => ?_)
        obtain ⟨q17, h⟩ := h
        exact xr_zret dX11_solution_58 rfl (x_nz q17).1 ⟨rfl, _, rfl, x_01 q17, h⟩
      · have h := hF14 c
        refine xr_iconst dX11_solution_43 ?_
        exact xr_zret dX11_solution_44 rfl (x_nz (by decide)).1 ⟨rfl, _, rfl, x_01 (by decide), h⟩
theorem dX11_readings_0 : decode cX11_readings 0 = .ok (.aload_n 0, 1) := by decide +kernel
theorem dX11_readings_1 : decode cX11_readings 1 = .ok (.iload_n 1, 1) := by decide +kernel
theorem dX11_readings_2 : decode cX11_readings 2 = .ok (.iload_n 2, 1) := by decide +kernel
theorem dX11_readings_3 : decode cX11_readings 3 = .ok (.iload_n 3, 1) := by decide +kernel
theorem dX11_readings_4 : decode cX11_readings 4 = .ok (.invokevirtual 130, 3) := by decide +kernel
theorem dX11_readings_7 : decode cX11_readings 7 = .ok (.ifCond .ne 5, 3) := by decide +kernel
theorem dX11_readings_10 : decode cX11_readings 10 = .ok (.iconst (-1), 1) := by decide +kernel
theorem dX11_readings_11 : decode cX11_readings 11 = .ok (.ireturn, 1) := by decide +kernel
theorem dX11_readings_12 : decode cX11_readings 12 = .ok (.aload_n 0, 1) := by decide +kernel
theorem dX11_readings_13 : decode cX11_readings 13 = .ok (.getfield 35, 3) := by decide +kernel
theorem dX11_readings_16 : decode cX11_readings 16 = .ok (.iload_n 2, 1) := by decide +kernel
theorem dX11_readings_17 : decode cX11_readings 17 = .ok (.sipush 1000, 3) := by decide +kernel
theorem dX11_readings_20 : decode cX11_readings 20 = .ok (.iconst 0, 1) := by decide +kernel
theorem dX11_readings_21 : decode cX11_readings 21 = .ok (.invokevirtual 133, 3) := by decide +kernel
theorem dX11_readings_24 : decode cX11_readings 24 = .ok (.ireturn, 1) := by decide +kernel
set_option maxRecDepth 20000 in
theorem E_X11_readings {G : xG} {l : Launch} {d : Nat} {P : Int → xMem → Prop} {v1 v2 v3 : Int} {μ : xMem} (h : CI G l d mX11_takeClue [xr G 0, xi v1, xi v2, xi v3] μ (fun r1 m2 => ((r1 ≠ 0 → CI G l d mX8_readBy [xr G 26, xi v2, xi 1000, xi 0] m2 (fun r5 m6 => P r5 m6)) ∧ (r1 = 0 → P (-1) m2)))) : CI G l (d + 1) mX11_readings [xr G 0, xi v1, xi v2, xi v3] μ P := by
  refine CC.ofRR (ll := [some (xr G 0), some (xi v1), some (xi v2), some (xi v3)]) (by decide +kernel) (Nat.le_of_ble_eq_true rfl) rfl (fun h => by cases h) ?_
  refine xr_aload_n dX11_readings_0 rfl ?_
  refine xr_iload_n dX11_readings_1 rfl ?_
  refine xr_iload_n dX11_readings_2 rfl ?_
  refine xr_iload_n dX11_readings_3 rfl ?_
  refine xr_cvI (As := [xi v1, xi v2, xi v3]) dX11_readings_4 mi_X11_takeClue ml_X11_130 se_X11_takeClue L_0 rfl rfl rfl (Nat.le_of_ble_eq_true rfl) h (fun r1 m2 hr1 h => ?_)
  obtain ⟨hT3, hF4⟩ := h
  refine xr_if_ne (tgt := 12) dX11_readings_7 (by decide) hr1  (fun c => ?_) (fun c => ?_)
  · have h := hT3 c
    refine xr_aload_n dX11_readings_12 rfl ?_
    refine xr_getR dX11_readings_13 fl_X11_35 L_0 rfl ?_
    refine xr_iload_n dX11_readings_16 rfl ?_
    refine xr_sipush dX11_readings_17 (by decide) ?_
    refine xr_iconst dX11_readings_20 ?_
    refine xr_cvI (As := [xi v2, xi 1000, xi 0]) dX11_readings_21 mi_X8_readBy ml_X11_133 se_X8_readBy L_26 rfl rfl rfl (Nat.le_of_ble_eq_true rfl) h (fun r5 m6 hr5 h => ?_)
    exact xr_iret dX11_readings_24 rfl ⟨rfl, _, rfl, hr5, h⟩
  · have h := hF4 c
    refine xr_iconst dX11_readings_10 ?_
    exact xr_iret dX11_readings_11 rfl ⟨rfl, _, rfl, (by decide), h⟩
theorem dX11_best_0 : decode cX11_best 0 = .ok (.aload_n 0, 1) := by decide +kernel
theorem dX11_best_1 : decode cX11_best 1 = .ok (.iload_n 1, 1) := by decide +kernel
theorem dX11_best_2 : decode cX11_best 2 = .ok (.iload_n 2, 1) := by decide +kernel
theorem dX11_best_3 : decode cX11_best 3 = .ok (.iload_n 3, 1) := by decide +kernel
theorem dX11_best_4 : decode cX11_best 4 = .ok (.invokevirtual 130, 3) := by decide +kernel
theorem dX11_best_7 : decode cX11_best 7 = .ok (.ifCond .ne 5, 3) := by decide +kernel
theorem dX11_best_10 : decode cX11_best 10 = .ok (.iconst (-1), 1) := by decide +kernel
theorem dX11_best_11 : decode cX11_best 11 = .ok (.ireturn, 1) := by decide +kernel
theorem dX11_best_12 : decode cX11_best 12 = .ok (.aload_n 0, 1) := by decide +kernel
theorem dX11_best_13 : decode cX11_best 13 = .ok (.getfield 35, 3) := by decide +kernel
theorem dX11_best_16 : decode cX11_best 16 = .ok (.iload_n 2, 1) := by decide +kernel
theorem dX11_best_17 : decode cX11_best 17 = .ok (.sipush 1000, 3) := by decide +kernel
theorem dX11_best_20 : decode cX11_best 20 = .ok (.iconst 1, 1) := by decide +kernel
theorem dX11_best_21 : decode cX11_best 21 = .ok (.invokevirtual 133, 3) := by decide +kernel
theorem dX11_best_24 : decode cX11_best 24 = .ok (.ifCond .ne 5, 3) := by decide +kernel
theorem dX11_best_27 : decode cX11_best 27 = .ok (.iconst 0, 1) := by decide +kernel
theorem dX11_best_28 : decode cX11_best 28 = .ok (.ireturn, 1) := by decide +kernel
theorem dX11_best_29 : decode cX11_best 29 = .ok (.aload_n 0, 1) := by decide +kernel
theorem dX11_best_30 : decode cX11_best 30 = .ok (.aload_n 0, 1) := by decide +kernel
theorem dX11_best_31 : decode cX11_best 31 = .ok (.getfield 35, 3) := by decide +kernel
theorem dX11_best_34 : decode cX11_best 34 = .ok (.aload_n 0, 1) := by decide +kernel
theorem dX11_best_35 : decode cX11_best 35 = .ok (.getfield 13, 3) := by decide +kernel
theorem dX11_best_38 : decode cX11_best 38 = .ok (.invokevirtual 137, 3) := by decide +kernel
theorem dX11_best_41 : decode cX11_best 41 = .ok (.putfield 141, 3) := by decide +kernel
theorem dX11_best_44 : decode cX11_best 44 = .ok (.aload_n 0, 1) := by decide +kernel
theorem dX11_best_45 : decode cX11_best 45 = .ok (.getfield 35, 3) := by decide +kernel
theorem dX11_best_48 : decode cX11_best 48 = .ok (.invokevirtual 144, 3) := by decide +kernel
theorem dX11_best_51 : decode cX11_best 51 = .ok (.ireturn, 1) := by decide +kernel
set_option maxRecDepth 20000 in
theorem E_X11_best {G : xG} {l : Launch} {d : Nat} {P : Int → xMem → Prop} {v1 v2 v3 : Int} {μ : xMem} (h : CI G l d mX11_takeClue [xr G 0, xi v1, xi v2, xi v3] μ (fun r1 m2 => ((r1 ≠ 0 → CI G l d mX8_readBy [xr G 26, xi v2, xi 1000, xi 1] m2 (fun r5 m6 => ((r5 ≠ 0 → CI G l d mX8_writeName [xr G 26, xr G 2] m6 (fun r9 m10 => CI G l d mX8_leastCost [xr G 26] (st2 m10 0 4 r9) (fun r11 m12 => P r11 m12))) ∧ (r5 = 0 → P 0 m6)))) ∧ (r1 = 0 → P (-1) m2)))) : CI G l (d + 1) mX11_best [xr G 0, xi v1, xi v2, xi v3] μ P := by
  refine CC.ofRR (ll := [some (xr G 0), some (xi v1), some (xi v2), some (xi v3)]) (by decide +kernel) (Nat.le_of_ble_eq_true rfl) rfl (fun h => by cases h) ?_
  refine xr_aload_n dX11_best_0 rfl ?_
  refine xr_iload_n dX11_best_1 rfl ?_
  refine xr_iload_n dX11_best_2 rfl ?_
  refine xr_iload_n dX11_best_3 rfl ?_
  refine xr_cvI (As := [xi v1, xi v2, xi v3]) dX11_best_4 mi_X11_takeClue ml_X11_130 se_X11_takeClue L_0 rfl rfl rfl (Nat.le_of_ble_eq_true rfl) h (fun r1 m2 hr1 h => ?_)
  obtain ⟨hT3, hF4⟩ := h
  refine xr_if_ne (tgt := 12) dX11_best_7 (by decide) hr1  (fun c => ?_) (fun c => ?_)
  · have h := hT3 c
    refine xr_aload_n dX11_best_12 rfl ?_
    refine xr_getR dX11_best_13 fl_X11_35 L_0 rfl ?_
    refine xr_iload_n dX11_best_16 rfl ?_
    refine xr_sipush dX11_best_17 (by decide) ?_
    refine xr_iconst dX11_best_20 ?_
    refine xr_cvI (As := [xi v2, xi 1000, xi 1]) dX11_best_21 mi_X8_readBy ml_X11_133 se_X8_readBy L_26 rfl rfl rfl (Nat.le_of_ble_eq_true rfl) h (fun r5 m6 hr5 h => ?_)
    obtain ⟨hT7, hF8⟩ := h
    refine xr_if_ne (tgt := 29) dX11_best_24 (by decide) hr5  (fun c => ?_) (fun c => ?_)
    · have h := hT7 c
      refine xr_aload_n dX11_best_29 rfl ?_
      refine xr_aload_n dX11_best_30 rfl ?_
      refine xr_getR dX11_best_31 fl_X11_35 L_0 rfl ?_
      refine xr_aload_n dX11_best_34 rfl ?_
      refine xr_getR dX11_best_35 fl_X11_13 L_0 rfl ?_
      refine xr_cvI (As := [xr G 2]) dX11_best_38 mi_X8_writeName ml_X11_137 se_X8_writeName L_26 rfl rfl rfl (Nat.le_of_ble_eq_true rfl) h (fun r9 m10 hr9 h => ?_)
      refine xr_putI dX11_best_41 fp_X11_141 L_0 rfl rfl ⟨rfl, rfl⟩ ?_
      refine xr_aload_n dX11_best_44 rfl ?_
      refine xr_getR dX11_best_45 fl_X11_35 L_0 rfl ?_
      refine xr_cvI (As := []) dX11_best_48 mi_X8_leastCost ml_X11_144 se_X8_leastCost L_26 rfl rfl rfl (Nat.le_of_ble_eq_true rfl) h (fun r11 m12 hr11 h => ?_)
      exact xr_iret dX11_best_51 rfl ⟨rfl, _, rfl, hr11, h⟩
    · have h := hF8 c
      refine xr_iconst dX11_best_27 ?_
      exact xr_iret dX11_best_28 rfl ⟨rfl, _, rfl, (by decide), h⟩
  · have h := hF4 c
    refine xr_iconst dX11_best_10 ?_
    exact xr_iret dX11_best_11 rfl ⟨rfl, _, rfl, (by decide), h⟩
theorem dX11_possible_0 : decode cX11_possible 0 = .ok (.aload_n 0, 1) := by decide +kernel
theorem dX11_possible_1 : decode cX11_possible 1 = .ok (.getfield 26, 3) := by decide +kernel
theorem dX11_possible_4 : decode cX11_possible 4 = .ok (.iload_n 1, 1) := by decide +kernel
theorem dX11_possible_5 : decode cX11_possible 5 = .ok (.invokevirtual 112, 3) := by decide +kernel
theorem dX11_possible_8 : decode cX11_possible 8 = .ok (.ifCond .eq 15, 3) := by decide +kernel
theorem dX11_possible_11 : decode cX11_possible 11 = .ok (.aload_n 0, 1) := by decide +kernel
theorem dX11_possible_12 : decode cX11_possible 12 = .ok (.getfield 44, 3) := by decide +kernel
theorem dX11_possible_15 : decode cX11_possible 15 = .ok (.iload_n 1, 1) := by decide +kernel
theorem dX11_possible_16 : decode cX11_possible 16 = .ok (.iload_n 2, 1) := by decide +kernel
theorem dX11_possible_17 : decode cX11_possible 17 = .ok (.invokevirtual 150, 3) := by decide +kernel
theorem dX11_possible_20 : decode cX11_possible 20 = .ok (.ifCond .ne 5, 3) := by decide +kernel
theorem dX11_possible_23 : decode cX11_possible 23 = .ok (.iconst (-1), 1) := by decide +kernel
theorem dX11_possible_24 : decode cX11_possible 24 = .ok (.ireturn, 1) := by decide +kernel
theorem dX11_possible_25 : decode cX11_possible 25 = .ok (.aload_n 0, 1) := by decide +kernel
theorem dX11_possible_26 : decode cX11_possible 26 = .ok (.getfield 44, 3) := by decide +kernel
theorem dX11_possible_29 : decode cX11_possible 29 = .ok (.getfield 154, 3) := by decide +kernel
theorem dX11_possible_32 : decode cX11_possible 32 = .ok (.iload_n 1, 1) := by decide +kernel
theorem dX11_possible_33 : decode cX11_possible 33 = .ok (.iaload, 1) := by decide +kernel
theorem dX11_possible_34 : decode cX11_possible 34 = .ok (.ireturn, 1) := by decide +kernel
set_option maxRecDepth 20000 in
theorem E_X11_possible {G : xG} {l : Launch} {d : Nat} {P : Int → xMem → Prop} {v1 v2 : Int} {μ : xMem} (h : CI G l d mX0_isTold [xr G 19, xi v1] μ (fun r1 m2 => ((r1 = 0 → P (-1) m2) ∧ (r1 ≠ 0 → CI G l d mX6_recall [xr G 40, xi v1, xi v2] m2 (fun r5 m6 => ((r5 ≠ 0 → ((0 ≤ v1 ∧ v1 < 16) ∧ (iR (m6 42 v1) ∧ P (m6 42 v1) m6))) ∧ (r5 = 0 → P (-1) m6))))))) : CI G l (d + 1) mX11_possible [xr G 0, xi v1, xi v2] μ P := by
  refine CC.ofRR (ll := [some (xr G 0), some (xi v1), some (xi v2)]) (by decide +kernel) (Nat.le_of_ble_eq_true rfl) rfl (fun h => by cases h) ?_
  refine xr_aload_n dX11_possible_0 rfl ?_
  refine xr_getR dX11_possible_1 fl_X11_26 L_0 rfl ?_
  refine xr_iload_n dX11_possible_4 rfl ?_
  refine xr_cvI (As := [xi v1]) dX11_possible_5 mi_X0_isTold ml_X11_112 se_X0_isTold L_19 rfl rfl rfl (Nat.le_of_ble_eq_true rfl) h (fun r1 m2 hr1 h => ?_)
  obtain ⟨hT3, hF4⟩ := h
  refine xr_if_eq (tgt := 23) dX11_possible_8 (by decide) hr1  (fun c => ?_) (fun c => ?_)
  · have h := hT3 c
    refine xr_iconst dX11_possible_23 ?_
    exact xr_iret dX11_possible_24 rfl ⟨rfl, _, rfl, (by decide), h⟩
  · have h := hF4 c
    refine xr_aload_n dX11_possible_11 rfl ?_
    refine xr_getR dX11_possible_12 fl_X11_44 L_0 rfl ?_
    refine xr_iload_n dX11_possible_15 rfl ?_
    refine xr_iload_n dX11_possible_16 rfl ?_
    refine xr_cvI (As := [xi v1, xi v2]) dX11_possible_17 mi_X6_recall ml_X11_150 se_X6_recall L_40 rfl rfl rfl (Nat.le_of_ble_eq_true rfl) h (fun r5 m6 hr5 h => ?_)
    obtain ⟨hT7, hF8⟩ := h
    refine xr_if_ne (tgt := 25) dX11_possible_20 (by decide) hr5  (fun c => ?_) (fun c => ?_)
    · have h := hT7 c
      refine xr_aload_n dX11_possible_25 rfl ?_
      refine xr_getR dX11_possible_26 fl_X11_44 L_0 rfl ?_
      refine xr_getR dX11_possible_29 fl_X11_154 L_40 rfl ?_
      refine xr_iload_n dX11_possible_32 rfl ?_
      obtain ⟨q9, h⟩ := h
      refine xr_iaload' (v := m6 42 v1) dX11_possible_33 L_42 rfl (by decide) q9 rfl ?_
      obtain ⟨q10, h⟩ := h
      exact xr_iret dX11_possible_34 rfl ⟨rfl, _, rfl, q10, h⟩
    · have h := hF8 c
      refine xr_iconst dX11_possible_23 ?_
      exact xr_iret dX11_possible_24 rfl ⟨rfl, _, rfl, (by decide), h⟩
theorem dX11_possibleAt_0 : decode cX11_possibleAt 0 = .ok (.aload_n 0, 1) := by decide +kernel
theorem dX11_possibleAt_1 : decode cX11_possibleAt 1 = .ok (.getfield 26, 3) := by decide +kernel
theorem dX11_possibleAt_4 : decode cX11_possibleAt 4 = .ok (.iload_n 1, 1) := by decide +kernel
theorem dX11_possibleAt_5 : decode cX11_possibleAt 5 = .ok (.invokevirtual 112, 3) := by decide +kernel
theorem dX11_possibleAt_8 : decode cX11_possibleAt 8 = .ok (.ifCond .eq 32, 3) := by decide +kernel
theorem dX11_possibleAt_11 : decode cX11_possibleAt 11 = .ok (.aload_n 0, 1) := by decide +kernel
theorem dX11_possibleAt_12 : decode cX11_possibleAt 12 = .ok (.getfield 44, 3) := by decide +kernel
theorem dX11_possibleAt_15 : decode cX11_possibleAt 15 = .ok (.iload_n 1, 1) := by decide +kernel
theorem dX11_possibleAt_16 : decode cX11_possibleAt 16 = .ok (.iload_n 3, 1) := by decide +kernel
theorem dX11_possibleAt_17 : decode cX11_possibleAt 17 = .ok (.invokevirtual 150, 3) := by decide +kernel
theorem dX11_possibleAt_20 : decode cX11_possibleAt 20 = .ok (.ifCond .eq 20, 3) := by decide +kernel
theorem dX11_possibleAt_23 : decode cX11_possibleAt 23 = .ok (.iload_n 2, 1) := by decide +kernel
theorem dX11_possibleAt_24 : decode cX11_possibleAt 24 = .ok (.ifCond .lt 16, 3) := by decide +kernel
theorem dX11_possibleAt_27 : decode cX11_possibleAt 27 = .ok (.iload_n 2, 1) := by decide +kernel
theorem dX11_possibleAt_28 : decode cX11_possibleAt 28 = .ok (.aload_n 0, 1) := by decide +kernel
theorem dX11_possibleAt_29 : decode cX11_possibleAt 29 = .ok (.getfield 44, 3) := by decide +kernel
theorem dX11_possibleAt_32 : decode cX11_possibleAt 32 = .ok (.getfield 154, 3) := by decide +kernel
theorem dX11_possibleAt_35 : decode cX11_possibleAt 35 = .ok (.iload_n 1, 1) := by decide +kernel
theorem dX11_possibleAt_36 : decode cX11_possibleAt 36 = .ok (.iaload, 1) := by decide +kernel
theorem dX11_possibleAt_37 : decode cX11_possibleAt 37 = .ok (.if_icmp .lt 5, 3) := by decide +kernel
theorem dX11_possibleAt_40 : decode cX11_possibleAt 40 = .ok (.iconst (-1), 1) := by decide +kernel
theorem dX11_possibleAt_41 : decode cX11_possibleAt 41 = .ok (.ireturn, 1) := by decide +kernel
theorem dX11_possibleAt_42 : decode cX11_possibleAt 42 = .ok (.aload_n 0, 1) := by decide +kernel
theorem dX11_possibleAt_43 : decode cX11_possibleAt 43 = .ok (.getfield 44, 3) := by decide +kernel
theorem dX11_possibleAt_46 : decode cX11_possibleAt 46 = .ok (.iload_n 1, 1) := by decide +kernel
theorem dX11_possibleAt_47 : decode cX11_possibleAt 47 = .ok (.iload_n 2, 1) := by decide +kernel
theorem dX11_possibleAt_48 : decode cX11_possibleAt 48 = .ok (.invokevirtual 157, 3) := by decide +kernel
theorem dX11_possibleAt_51 : decode cX11_possibleAt 51 = .ok (.ireturn, 1) := by decide +kernel
set_option maxRecDepth 20000 in
theorem E_X11_possibleAt {G : xG} {l : Launch} {d : Nat} {P : Int → xMem → Prop} {v1 v2 v3 : Int} {μ : xMem} (h : CI G l d mX0_isTold [xr G 19, xi v1] μ (fun r1 m2 => ((r1 = 0 → P (-1) m2) ∧ (r1 ≠ 0 → CI G l d mX6_recall [xr G 40, xi v1, xi v3] m2 (fun r5 m6 => ((r5 = 0 → P (-1) m6) ∧ (r5 ≠ 0 → (iR v2 ∧ (v2 < 0 → P (-1) m6) ∧ (0 ≤ v2 → ((0 ≤ v1 ∧ v1 < 16) ∧ (iR (m6 42 v1) ∧ (v2 < (m6 42 v1) → CI G l d mX6_wordAt [xr G 40, xi v1, xi v2] m6 (fun r16 m17 => P r16 m17)) ∧ ((m6 42 v1) ≤ v2 → P (-1) m6)))))))))))) : CI G l (d + 1) mX11_possibleAt [xr G 0, xi v1, xi v2, xi v3] μ P := by
  refine CC.ofRR (ll := [some (xr G 0), some (xi v1), some (xi v2), some (xi v3)]) (by decide +kernel) (Nat.le_of_ble_eq_true rfl) rfl (fun h => by cases h) ?_
  refine xr_aload_n dX11_possibleAt_0 rfl ?_
  refine xr_getR dX11_possibleAt_1 fl_X11_26 L_0 rfl ?_
  refine xr_iload_n dX11_possibleAt_4 rfl ?_
  refine xr_cvI (As := [xi v1]) dX11_possibleAt_5 mi_X0_isTold ml_X11_112 se_X0_isTold L_19 rfl rfl rfl (Nat.le_of_ble_eq_true rfl) h (fun r1 m2 hr1 h => ?_)
  obtain ⟨hT3, hF4⟩ := h
  refine xr_if_eq (tgt := 40) dX11_possibleAt_8 (by decide) hr1  (fun c => ?_) (fun c => ?_)
  · have h := hT3 c
    refine xr_iconst dX11_possibleAt_40 ?_
    exact xr_iret dX11_possibleAt_41 rfl ⟨rfl, _, rfl, (by decide), h⟩
  · have h := hF4 c
    refine xr_aload_n dX11_possibleAt_11 rfl ?_
    refine xr_getR dX11_possibleAt_12 fl_X11_44 L_0 rfl ?_
    refine xr_iload_n dX11_possibleAt_15 rfl ?_
    refine xr_iload_n dX11_possibleAt_16 rfl ?_
    refine xr_cvI (As := [xi v1, xi v3]) dX11_possibleAt_17 mi_X6_recall ml_X11_150 se_X6_recall L_40 rfl rfl rfl (Nat.le_of_ble_eq_true rfl) h (fun r5 m6 hr5 h => ?_)
    obtain ⟨hT7, hF8⟩ := h
    refine xr_if_eq (tgt := 40) dX11_possibleAt_20 (by decide) hr5  (fun c => ?_) (fun c => ?_)
    · have h := hT7 c
      refine xr_iconst dX11_possibleAt_40 ?_
      exact xr_iret dX11_possibleAt_41 rfl ⟨rfl, _, rfl, (by decide), h⟩
    · have h := hF8 c
      refine xr_iload_n dX11_possibleAt_23 rfl ?_
      obtain ⟨q9, hT10, hF11⟩ := h
      refine xr_if_lt (tgt := 40) dX11_possibleAt_24 (by decide) q9  (fun c => ?_) (fun c => ?_)
      · have h := hT10 c
        refine xr_iconst dX11_possibleAt_40 ?_
        exact xr_iret dX11_possibleAt_41 rfl ⟨rfl, _, rfl, (by decide), h⟩
      · have h := hF11 (Int.not_lt.mp c)
        refine xr_iload_n dX11_possibleAt_27 rfl ?_
        refine xr_aload_n dX11_possibleAt_28 rfl ?_
        refine xr_getR dX11_possibleAt_29 fl_X11_44 L_0 rfl ?_
        refine xr_getR dX11_possibleAt_32 fl_X11_154 L_40 rfl ?_
        refine xr_iload_n dX11_possibleAt_35 rfl ?_
        obtain ⟨q12, h⟩ := h
        refine xr_iaload' (v := m6 42 v1) dX11_possibleAt_36 L_42 rfl (by decide) q12 rfl ?_
        obtain ⟨q13, hT14, hF15⟩ := h
        refine xr_icmp_lt (tgt := 42) dX11_possibleAt_37 (by decide) q9 q13 (fun c => ?_) (fun c => ?_)
        · have h := hT14 c
          refine xr_aload_n dX11_possibleAt_42 rfl ?_
          refine xr_getR dX11_possibleAt_43 fl_X11_44 L_0 rfl ?_
          refine xr_iload_n dX11_possibleAt_46 rfl ?_
          refine xr_iload_n dX11_possibleAt_47 rfl ?_
          refine xr_cvI (As := [xi v1, xi v2]) dX11_possibleAt_48 mi_X6_wordAt ml_X11_157 se_X6_wordAt L_40 rfl rfl rfl (Nat.le_of_ble_eq_true rfl) h (fun r16 m17 hr16 h => ?_)
          exact xr_iret dX11_possibleAt_51 rfl ⟨rfl, _, rfl, hr16, h⟩
        · have h := hF15 (Int.not_lt.mp c)
          refine xr_iconst dX11_possibleAt_40 ?_
          exact xr_iret dX11_possibleAt_41 rfl ⟨rfl, _, rfl, (by decide), h⟩
theorem dX11_enter_0 : decode cX11_enter 0 = .ok (.aload_n 0, 1) := by decide +kernel
theorem dX11_enter_1 : decode cX11_enter 1 = .ok (.getfield 51, 3) := by decide +kernel
theorem dX11_enter_4 : decode cX11_enter 4 = .ok (.iload_n 1, 1) := by decide +kernel
theorem dX11_enter_5 : decode cX11_enter 5 = .ok (.iload_n 2, 1) := by decide +kernel
theorem dX11_enter_6 : decode cX11_enter 6 = .ok (.invokevirtual 161, 3) := by decide +kernel
theorem dX11_enter_9 : decode cX11_enter 9 = .ok (.ifCond .eq 13, 3) := by decide +kernel
theorem dX11_enter_12 : decode cX11_enter 12 = .ok (.iload_n 3, 1) := by decide +kernel
theorem dX11_enter_13 : decode cX11_enter 13 = .ok (.ifCond .lt 9, 3) := by decide +kernel
theorem dX11_enter_16 : decode cX11_enter 16 = .ok (.iload_n 3, 1) := by decide +kernel
theorem dX11_enter_17 : decode cX11_enter 17 = .ok (.bipush 26, 2) := by decide +kernel
theorem dX11_enter_19 : decode cX11_enter 19 = .ok (.if_icmp .le 5, 3) := by decide +kernel
theorem dX11_enter_22 : decode cX11_enter 22 = .ok (.iconst 0, 1) := by decide +kernel
theorem dX11_enter_23 : decode cX11_enter 23 = .ok (.ireturn, 1) := by decide +kernel
theorem dX11_enter_24 : decode cX11_enter 24 = .ok (.aload_n 0, 1) := by decide +kernel
theorem dX11_enter_25 : decode cX11_enter 25 = .ok (.getfield 51, 3) := by decide +kernel
theorem dX11_enter_28 : decode cX11_enter 28 = .ok (.getfield 164, 3) := by decide +kernel
theorem dX11_enter_31 : decode cX11_enter 31 = .ok (.iload_n 1, 1) := by decide +kernel
theorem dX11_enter_32 : decode cX11_enter 32 = .ok (.bipush 9, 2) := by decide +kernel
theorem dX11_enter_34 : decode cX11_enter 34 = .ok (.imul, 1) := by decide +kernel
theorem dX11_enter_35 : decode cX11_enter 35 = .ok (.iload_n 2, 1) := by decide +kernel
theorem dX11_enter_36 : decode cX11_enter 36 = .ok (.iadd, 1) := by decide +kernel
theorem dX11_enter_37 : decode cX11_enter 37 = .ok (.iload_n 3, 1) := by decide +kernel
theorem dX11_enter_38 : decode cX11_enter 38 = .ok (.iastore, 1) := by decide +kernel
theorem dX11_enter_39 : decode cX11_enter 39 = .ok (.iconst 1, 1) := by decide +kernel
theorem dX11_enter_40 : decode cX11_enter 40 = .ok (.ireturn, 1) := by decide +kernel
set_option maxRecDepth 20000 in
theorem E_X11_enter {G : xG} {l : Launch} {d : Nat} {P : Int → xMem → Prop} {v1 v2 v3 : Int} {μ : xMem} (h : CI G l d mX2_isLit [xr G 46, xi v1, xi v2] μ (fun r1 m2 => ((r1 = 0 → P 0 m2) ∧ (r1 ≠ 0 → (iR v3 ∧ (v3 < 0 → P 0 m2) ∧ (0 ≤ v3 → ((v3 ≤ 26 → ((0 ≤ (v1 * 9) + v2 ∧ (v1 * 9) + v2 < 81) ∧ P 1 (st2 m2 52 ((v1 * 9) + v2) v3))) ∧ (26 < v3 → P 0 m2)))))))) : CI G l (d + 1) mX11_enter [xr G 0, xi v1, xi v2, xi v3] μ P := by
  refine CC.ofRR (ll := [some (xr G 0), some (xi v1), some (xi v2), some (xi v3)]) (by decide +kernel) (Nat.le_of_ble_eq_true rfl) rfl (fun h => by cases h) ?_
  refine xr_aload_n dX11_enter_0 rfl ?_
  refine xr_getR dX11_enter_1 fl_X11_51 L_0 rfl ?_
  refine xr_iload_n dX11_enter_4 rfl ?_
  refine xr_iload_n dX11_enter_5 rfl ?_
  refine xr_cvI (As := [xi v1, xi v2]) dX11_enter_6 mi_X2_isLit ml_X11_161 se_X2_isLit L_46 rfl rfl rfl (Nat.le_of_ble_eq_true rfl) h (fun r1 m2 hr1 h => ?_)
  obtain ⟨hT3, hF4⟩ := h
  refine xr_if_eq (tgt := 22) dX11_enter_9 (by decide) hr1  (fun c => ?_) (fun c => ?_)
  · have h := hT3 c
    refine xr_iconst dX11_enter_22 ?_
    exact xr_zret dX11_enter_23 rfl (x_nz (by decide)).1 ⟨rfl, _, rfl, x_01 (by decide), h⟩
  · have h := hF4 c
    refine xr_iload_n dX11_enter_12 rfl ?_
    obtain ⟨q5, hT6, hF7⟩ := h
    refine xr_if_lt (tgt := 22) dX11_enter_13 (by decide) q5  (fun c => ?_) (fun c => ?_)
    · have h := hT6 c
      refine xr_iconst dX11_enter_22 ?_
      exact xr_zret dX11_enter_23 rfl (x_nz (by decide)).1 ⟨rfl, _, rfl, x_01 (by decide), h⟩
    · have h := hF7 (Int.not_lt.mp c)
      refine xr_iload_n dX11_enter_16 rfl ?_
      refine xr_bipush dX11_enter_17 (by decide) ?_
      obtain ⟨hT8, hF9⟩ := h
      refine xr_icmp_le (tgt := 24) dX11_enter_19 (by decide) q5 (by decide) (fun c => ?_) (fun c => ?_)
      · have h := hT8 c
        refine xr_aload_n dX11_enter_24 rfl ?_
        refine xr_getR dX11_enter_25 fl_X11_51 L_0 rfl ?_
        refine xr_getR dX11_enter_28 fl_X11_164 L_46 rfl ?_
        refine xr_iload_n dX11_enter_31 rfl ?_
        refine xr_bipush dX11_enter_32 (by decide) ?_
        refine xr_imul dX11_enter_34 ?_
        refine xr_iload_n dX11_enter_35 rfl ?_
        refine xr_iadd dX11_enter_36 ?_
        refine xr_iload_n dX11_enter_37 rfl ?_
        obtain ⟨q10, h⟩ := h
        refine xr_iastore dX11_enter_38 L_52 rfl (by decide) q10 ?_
        refine xr_iconst dX11_enter_39 ?_
        exact xr_zret dX11_enter_40 rfl (x_nz (by decide)).1 ⟨rfl, _, rfl, x_01 (by decide), h⟩
      · have h := hF9 (Int.not_le.mp c)
        refine xr_iconst dX11_enter_22 ?_
        exact xr_zret dX11_enter_23 rfl (x_nz (by decide)).1 ⟨rfl, _, rfl, x_01 (by decide), h⟩
theorem dX11_cell_0 : decode cX11_cell 0 = .ok (.aload_n 0, 1) := by decide +kernel
theorem dX11_cell_1 : decode cX11_cell 1 = .ok (.getfield 51, 3) := by decide +kernel
theorem dX11_cell_4 : decode cX11_cell 4 = .ok (.iload_n 1, 1) := by decide +kernel
theorem dX11_cell_5 : decode cX11_cell 5 = .ok (.iload_n 2, 1) := by decide +kernel
theorem dX11_cell_6 : decode cX11_cell 6 = .ok (.invokevirtual 161, 3) := by decide +kernel
theorem dX11_cell_9 : decode cX11_cell 9 = .ok (.ifCond .ne 5, 3) := by decide +kernel
theorem dX11_cell_12 : decode cX11_cell 12 = .ok (.iconst (-1), 1) := by decide +kernel
theorem dX11_cell_13 : decode cX11_cell 13 = .ok (.ireturn, 1) := by decide +kernel
theorem dX11_cell_14 : decode cX11_cell 14 = .ok (.aload_n 0, 1) := by decide +kernel
theorem dX11_cell_15 : decode cX11_cell 15 = .ok (.getfield 51, 3) := by decide +kernel
theorem dX11_cell_18 : decode cX11_cell 18 = .ok (.getfield 164, 3) := by decide +kernel
theorem dX11_cell_21 : decode cX11_cell 21 = .ok (.iload_n 1, 1) := by decide +kernel
theorem dX11_cell_22 : decode cX11_cell 22 = .ok (.bipush 9, 2) := by decide +kernel
theorem dX11_cell_24 : decode cX11_cell 24 = .ok (.imul, 1) := by decide +kernel
theorem dX11_cell_25 : decode cX11_cell 25 = .ok (.iload_n 2, 1) := by decide +kernel
theorem dX11_cell_26 : decode cX11_cell 26 = .ok (.iadd, 1) := by decide +kernel
theorem dX11_cell_27 : decode cX11_cell 27 = .ok (.iaload, 1) := by decide +kernel
theorem dX11_cell_28 : decode cX11_cell 28 = .ok (.ireturn, 1) := by decide +kernel
set_option maxRecDepth 20000 in
theorem E_X11_cell {G : xG} {l : Launch} {d : Nat} {P : Int → xMem → Prop} {v1 v2 : Int} {μ : xMem} (h : CI G l d mX2_isLit [xr G 46, xi v1, xi v2] μ (fun r1 m2 => ((r1 ≠ 0 → ((0 ≤ (v1 * 9) + v2 ∧ (v1 * 9) + v2 < 81) ∧ (iR (m2 52 ((v1 * 9) + v2)) ∧ P (m2 52 ((v1 * 9) + v2)) m2))) ∧ (r1 = 0 → P (-1) m2)))) : CI G l (d + 1) mX11_cell [xr G 0, xi v1, xi v2] μ P := by
  refine CC.ofRR (ll := [some (xr G 0), some (xi v1), some (xi v2)]) (by decide +kernel) (Nat.le_of_ble_eq_true rfl) rfl (fun h => by cases h) ?_
  refine xr_aload_n dX11_cell_0 rfl ?_
  refine xr_getR dX11_cell_1 fl_X11_51 L_0 rfl ?_
  refine xr_iload_n dX11_cell_4 rfl ?_
  refine xr_iload_n dX11_cell_5 rfl ?_
  refine xr_cvI (As := [xi v1, xi v2]) dX11_cell_6 mi_X2_isLit ml_X11_161 se_X2_isLit L_46 rfl rfl rfl (Nat.le_of_ble_eq_true rfl) h (fun r1 m2 hr1 h => ?_)
  obtain ⟨hT3, hF4⟩ := h
  refine xr_if_ne (tgt := 14) dX11_cell_9 (by decide) hr1  (fun c => ?_) (fun c => ?_)
  · have h := hT3 c
    refine xr_aload_n dX11_cell_14 rfl ?_
    refine xr_getR dX11_cell_15 fl_X11_51 L_0 rfl ?_
    refine xr_getR dX11_cell_18 fl_X11_164 L_46 rfl ?_
    refine xr_iload_n dX11_cell_21 rfl ?_
    refine xr_bipush dX11_cell_22 (by decide) ?_
    refine xr_imul dX11_cell_24 ?_
    refine xr_iload_n dX11_cell_25 rfl ?_
    refine xr_iadd dX11_cell_26 ?_
    obtain ⟨q5, h⟩ := h
    refine xr_iaload' (v := m2 52 ((v1 * 9) + v2)) dX11_cell_27 L_52 rfl (by decide) q5 rfl ?_
    obtain ⟨q6, h⟩ := h
    exact xr_iret dX11_cell_28 rfl ⟨rfl, _, rfl, q6, h⟩
  · have h := hF4 c
    refine xr_iconst dX11_cell_12 ?_
    exact xr_iret dX11_cell_13 rfl ⟨rfl, _, rfl, (by decide), h⟩
theorem dX11_left_0 : decode cX11_left 0 = .ok (.aload_n 0, 1) := by decide +kernel
theorem dX11_left_1 : decode cX11_left 1 = .ok (.getfield 51, 3) := by decide +kernel
theorem dX11_left_4 : decode cX11_left 4 = .ok (.iload_n 1, 1) := by decide +kernel
theorem dX11_left_5 : decode cX11_left 5 = .ok (.invokevirtual 122, 3) := by decide +kernel
theorem dX11_left_8 : decode cX11_left 8 = .ok (.ifCond .ne 5, 3) := by decide +kernel
theorem dX11_left_11 : decode cX11_left 11 = .ok (.iconst (-1), 1) := by decide +kernel
theorem dX11_left_12 : decode cX11_left 12 = .ok (.ireturn, 1) := by decide +kernel
theorem dX11_left_13 : decode cX11_left 13 = .ok (.aload_n 0, 1) := by decide +kernel
theorem dX11_left_14 : decode cX11_left 14 = .ok (.getfield 44, 3) := by decide +kernel
theorem dX11_left_17 : decode cX11_left 17 = .ok (.aload_n 0, 1) := by decide +kernel
theorem dX11_left_18 : decode cX11_left 18 = .ok (.getfield 51, 3) := by decide +kernel
theorem dX11_left_21 : decode cX11_left 21 = .ok (.iload_n 2, 1) := by decide +kernel
theorem dX11_left_22 : decode cX11_left 22 = .ok (.invokevirtual 167, 3) := by decide +kernel
theorem dX11_left_25 : decode cX11_left 25 = .ok (.aload_n 0, 1) := by decide +kernel
theorem dX11_left_26 : decode cX11_left 26 = .ok (.getfield 60, 3) := by decide +kernel
theorem dX11_left_29 : decode cX11_left 29 = .ok (.invokevirtual 171, 3) := by decide +kernel
theorem dX11_left_32 : decode cX11_left 32 = .ok (.aload_n 0, 1) := by decide +kernel
theorem dX11_left_33 : decode cX11_left 33 = .ok (.getfield 60, 3) := by decide +kernel
theorem dX11_left_36 : decode cX11_left 36 = .ok (.getfield 174, 3) := by decide +kernel
theorem dX11_left_39 : decode cX11_left 39 = .ok (.iload_n 1, 1) := by decide +kernel
theorem dX11_left_40 : decode cX11_left 40 = .ok (.iaload, 1) := by decide +kernel
theorem dX11_left_41 : decode cX11_left 41 = .ok (.ireturn, 1) := by decide +kernel
set_option maxRecDepth 20000 in
theorem E_X11_left {G : xG} {l : Launch} {d : Nat} {P : Int → xMem → Prop} {v1 v2 : Int} {μ : xMem} (h : CI G l d mX2_hasLight [xr G 46, xi v1] μ (fun r1 m2 => ((r1 ≠ 0 → CV G l d mX6_recallLights [xr G 40, xr G 46, xi v2] m2 (fun m6 => CV G l d mX10_settle [xr G 58] m6 (fun m8 => ((0 ≤ v1 ∧ v1 < 16) ∧ (iR (m8 60 v1) ∧ P (m8 60 v1) m8))))) ∧ (r1 = 0 → P (-1) m2)))) : CI G l (d + 1) mX11_left [xr G 0, xi v1, xi v2] μ P := by
  refine CC.ofRR (ll := [some (xr G 0), some (xi v1), some (xi v2)]) (by decide +kernel) (Nat.le_of_ble_eq_true rfl) rfl (fun h => by cases h) ?_
  refine xr_aload_n dX11_left_0 rfl ?_
  refine xr_getR dX11_left_1 fl_X11_51 L_0 rfl ?_
  refine xr_iload_n dX11_left_4 rfl ?_
  refine xr_cvI (As := [xi v1]) dX11_left_5 mi_X2_hasLight ml_X11_122 se_X2_hasLight L_46 rfl rfl rfl (Nat.le_of_ble_eq_true rfl) h (fun r1 m2 hr1 h => ?_)
  obtain ⟨hT3, hF4⟩ := h
  refine xr_if_ne (tgt := 13) dX11_left_8 (by decide) hr1  (fun c => ?_) (fun c => ?_)
  · have h := hT3 c
    refine xr_aload_n dX11_left_13 rfl ?_
    refine xr_getR dX11_left_14 fl_X11_44 L_0 rfl ?_
    refine xr_aload_n dX11_left_17 rfl ?_
    refine xr_getR dX11_left_18 fl_X11_51 L_0 rfl ?_
    refine xr_iload_n dX11_left_21 rfl ?_
    refine xr_cvV (As := [xr G 46, xi v2]) dX11_left_22 mi_X6_recallLights ml_X11_167 se_X6_recallLights L_40 rfl rfl rfl (Nat.le_of_ble_eq_true rfl) h (fun m6 h => ?_)
    refine xr_aload_n dX11_left_25 rfl ?_
    refine xr_getR dX11_left_26 fl_X11_60 L_0 rfl ?_
    refine xr_cvV (As := []) dX11_left_29 mi_X10_settle ml_X11_171 se_X10_settle L_58 rfl rfl rfl (Nat.le_of_ble_eq_true rfl) h (fun m8 h => ?_)
    refine xr_aload_n dX11_left_32 rfl ?_
    refine xr_getR dX11_left_33 fl_X11_60 L_0 rfl ?_
    refine xr_getR dX11_left_36 fl_X11_174 L_58 rfl ?_
    refine xr_iload_n dX11_left_39 rfl ?_
    obtain ⟨q9, h⟩ := h
    refine xr_iaload' (v := m8 60 v1) dX11_left_40 L_60 rfl (by decide) q9 rfl ?_
    obtain ⟨q10, h⟩ := h
    exact xr_iret dX11_left_41 rfl ⟨rfl, _, rfl, q10, h⟩
  · have h := hF4 c
    refine xr_iconst dX11_left_11 ?_
    exact xr_iret dX11_left_12 rfl ⟨rfl, _, rfl, (by decide), h⟩
theorem dX11_nextLight_0 : decode cX11_nextLight 0 = .ok (.aload_n 0, 1) := by decide +kernel
theorem dX11_nextLight_1 : decode cX11_nextLight 1 = .ok (.getfield 44, 3) := by decide +kernel
theorem dX11_nextLight_4 : decode cX11_nextLight 4 = .ok (.aload_n 0, 1) := by decide +kernel
theorem dX11_nextLight_5 : decode cX11_nextLight 5 = .ok (.getfield 51, 3) := by decide +kernel
theorem dX11_nextLight_8 : decode cX11_nextLight 8 = .ok (.iload_n 1, 1) := by decide +kernel
theorem dX11_nextLight_9 : decode cX11_nextLight 9 = .ok (.invokevirtual 167, 3) := by decide +kernel
theorem dX11_nextLight_12 : decode cX11_nextLight 12 = .ok (.aload_n 0, 1) := by decide +kernel
theorem dX11_nextLight_13 : decode cX11_nextLight 13 = .ok (.getfield 60, 3) := by decide +kernel
theorem dX11_nextLight_16 : decode cX11_nextLight 16 = .ok (.invokevirtual 171, 3) := by decide +kernel
theorem dX11_nextLight_19 : decode cX11_nextLight 19 = .ok (.aload_n 0, 1) := by decide +kernel
theorem dX11_nextLight_20 : decode cX11_nextLight 20 = .ok (.getfield 60, 3) := by decide +kernel
theorem dX11_nextLight_23 : decode cX11_nextLight 23 = .ok (.invokevirtual 175, 3) := by decide +kernel
theorem dX11_nextLight_26 : decode cX11_nextLight 26 = .ok (.ireturn, 1) := by decide +kernel
set_option maxRecDepth 20000 in
theorem E_X11_nextLight {G : xG} {l : Launch} {d : Nat} {P : Int → xMem → Prop} {v1 : Int} {μ : xMem} (h : CV G l d mX6_recallLights [xr G 40, xr G 46, xi v1] μ (fun m2 => CV G l d mX10_settle [xr G 58] m2 (fun m4 => CI G l d mX10_nextOne [xr G 58] m4 (fun r5 m6 => P r5 m6)))) : CI G l (d + 1) mX11_nextLight [xr G 0, xi v1] μ P := by
  refine CC.ofRR (ll := [some (xr G 0), some (xi v1)]) (by decide +kernel) (Nat.le_of_ble_eq_true rfl) rfl (fun h => by cases h) ?_
  refine xr_aload_n dX11_nextLight_0 rfl ?_
  refine xr_getR dX11_nextLight_1 fl_X11_44 L_0 rfl ?_
  refine xr_aload_n dX11_nextLight_4 rfl ?_
  refine xr_getR dX11_nextLight_5 fl_X11_51 L_0 rfl ?_
  refine xr_iload_n dX11_nextLight_8 rfl ?_
  refine xr_cvV (As := [xr G 46, xi v1]) dX11_nextLight_9 mi_X6_recallLights ml_X11_167 se_X6_recallLights L_40 rfl rfl rfl (Nat.le_of_ble_eq_true rfl) h (fun m2 h => ?_)
  refine xr_aload_n dX11_nextLight_12 rfl ?_
  refine xr_getR dX11_nextLight_13 fl_X11_60 L_0 rfl ?_
  refine xr_cvV (As := []) dX11_nextLight_16 mi_X10_settle ml_X11_171 se_X10_settle L_58 rfl rfl rfl (Nat.le_of_ble_eq_true rfl) h (fun m4 h => ?_)
  refine xr_aload_n dX11_nextLight_19 rfl ?_
  refine xr_getR dX11_nextLight_20 fl_X11_60 L_0 rfl ?_
  refine xr_cvI (As := []) dX11_nextLight_23 mi_X10_nextOne ml_X11_175 se_X10_nextOne L_58 rfl rfl rfl (Nat.le_of_ble_eq_true rfl) h (fun r5 m6 hr5 h => ?_)
  exact xr_iret dX11_nextLight_26 rfl ⟨rfl, _, rfl, hr5, h⟩
theorem dX11_solve_0 : decode cX11_solve 0 = .ok (.aload_n 0, 1) := by decide +kernel
theorem dX11_solve_1 : decode cX11_solve 1 = .ok (.getfield 44, 3) := by decide +kernel
theorem dX11_solve_4 : decode cX11_solve 4 = .ok (.aload_n 0, 1) := by decide +kernel
theorem dX11_solve_5 : decode cX11_solve 5 = .ok (.getfield 51, 3) := by decide +kernel
theorem dX11_solve_8 : decode cX11_solve 8 = .ok (.iload_n 1, 1) := by decide +kernel
theorem dX11_solve_9 : decode cX11_solve 9 = .ok (.invokevirtual 167, 3) := by decide +kernel
theorem dX11_solve_12 : decode cX11_solve 12 = .ok (.aload_n 0, 1) := by decide +kernel
theorem dX11_solve_13 : decode cX11_solve 13 = .ok (.getfield 60, 3) := by decide +kernel
theorem dX11_solve_16 : decode cX11_solve 16 = .ok (.invokevirtual 171, 3) := by decide +kernel
theorem dX11_solve_19 : decode cX11_solve 19 = .ok (.aload_n 0, 1) := by decide +kernel
theorem dX11_solve_20 : decode cX11_solve 20 = .ok (.getfield 60, 3) := by decide +kernel
theorem dX11_solve_23 : decode cX11_solve 23 = .ok (.invokevirtual 178, 3) := by decide +kernel
theorem dX11_solve_26 : decode cX11_solve 26 = .ok (.ireturn, 1) := by decide +kernel
set_option maxRecDepth 20000 in
theorem E_X11_solve {G : xG} {l : Launch} {d : Nat} {P : Int → xMem → Prop} {v1 : Int} {μ : xMem} (h : CV G l d mX6_recallLights [xr G 40, xr G 46, xi v1] μ (fun m2 => CV G l d mX10_settle [xr G 58] m2 (fun m4 => CI G l d mX10_enterAll [xr G 58] m4 (fun r5 m6 => P r5 m6)))) : CI G l (d + 1) mX11_solve [xr G 0, xi v1] μ P := by
  refine CC.ofRR (ll := [some (xr G 0), some (xi v1)]) (by decide +kernel) (Nat.le_of_ble_eq_true rfl) rfl (fun h => by cases h) ?_
  refine xr_aload_n dX11_solve_0 rfl ?_
  refine xr_getR dX11_solve_1 fl_X11_44 L_0 rfl ?_
  refine xr_aload_n dX11_solve_4 rfl ?_
  refine xr_getR dX11_solve_5 fl_X11_51 L_0 rfl ?_
  refine xr_iload_n dX11_solve_8 rfl ?_
  refine xr_cvV (As := [xr G 46, xi v1]) dX11_solve_9 mi_X6_recallLights ml_X11_167 se_X6_recallLights L_40 rfl rfl rfl (Nat.le_of_ble_eq_true rfl) h (fun m2 h => ?_)
  refine xr_aload_n dX11_solve_12 rfl ?_
  refine xr_getR dX11_solve_13 fl_X11_60 L_0 rfl ?_
  refine xr_cvV (As := []) dX11_solve_16 mi_X10_settle ml_X11_171 se_X10_settle L_58 rfl rfl rfl (Nat.le_of_ble_eq_true rfl) h (fun m4 h => ?_)
  refine xr_aload_n dX11_solve_19 rfl ?_
  refine xr_getR dX11_solve_20 fl_X11_60 L_0 rfl ?_
  refine xr_cvI (As := []) dX11_solve_23 mi_X10_enterAll ml_X11_178 se_X10_enterAll L_58 rfl rfl rfl (Nat.le_of_ble_eq_true rfl) h (fun r5 m6 hr5 h => ?_)
  exact xr_iret dX11_solve_26 rfl ⟨rfl, _, rfl, hr5, h⟩
theorem dX11_fillings_0 : decode cX11_fillings 0 = .ok (.aload_n 0, 1) := by decide +kernel
theorem dX11_fillings_1 : decode cX11_fillings 1 = .ok (.getfield 44, 3) := by decide +kernel
theorem dX11_fillings_4 : decode cX11_fillings 4 = .ok (.aload_n 0, 1) := by decide +kernel
theorem dX11_fillings_5 : decode cX11_fillings 5 = .ok (.getfield 51, 3) := by decide +kernel
theorem dX11_fillings_8 : decode cX11_fillings 8 = .ok (.iload_n 1, 1) := by decide +kernel
theorem dX11_fillings_9 : decode cX11_fillings 9 = .ok (.invokevirtual 167, 3) := by decide +kernel
theorem dX11_fillings_12 : decode cX11_fillings 12 = .ok (.aload_n 0, 1) := by decide +kernel
theorem dX11_fillings_13 : decode cX11_fillings 13 = .ok (.getfield 60, 3) := by decide +kernel
theorem dX11_fillings_16 : decode cX11_fillings 16 = .ok (.invokevirtual 181, 3) := by decide +kernel
theorem dX11_fillings_19 : decode cX11_fillings 19 = .ok (.ireturn, 1) := by decide +kernel
set_option maxRecDepth 20000 in
theorem E_X11_fillings {G : xG} {l : Launch} {d : Nat} {P : Int → xMem → Prop} {v1 : Int} {μ : xMem} (h : CV G l d mX6_recallLights [xr G 40, xr G 46, xi v1] μ (fun m2 => CI G l d mX10_fillAll [xr G 58] m2 (fun r3 m4 => P r3 m4))) : CI G l (d + 1) mX11_fillings [xr G 0, xi v1] μ P := by
  refine CC.ofRR (ll := [some (xr G 0), some (xi v1)]) (by decide +kernel) (Nat.le_of_ble_eq_true rfl) rfl (fun h => by cases h) ?_
  refine xr_aload_n dX11_fillings_0 rfl ?_
  refine xr_getR dX11_fillings_1 fl_X11_44 L_0 rfl ?_
  refine xr_aload_n dX11_fillings_4 rfl ?_
  refine xr_getR dX11_fillings_5 fl_X11_51 L_0 rfl ?_
  refine xr_iload_n dX11_fillings_8 rfl ?_
  refine xr_cvV (As := [xr G 46, xi v1]) dX11_fillings_9 mi_X6_recallLights ml_X11_167 se_X6_recallLights L_40 rfl rfl rfl (Nat.le_of_ble_eq_true rfl) h (fun m2 h => ?_)
  refine xr_aload_n dX11_fillings_12 rfl ?_
  refine xr_getR dX11_fillings_13 fl_X11_60 L_0 rfl ?_
  refine xr_cvI (As := []) dX11_fillings_16 mi_X10_fillAll ml_X11_181 se_X10_fillAll L_58 rfl rfl rfl (Nat.le_of_ble_eq_true rfl) h (fun r3 m4 hr3 h => ?_)
  exact xr_iret dX11_fillings_19 rfl ⟨rfl, _, rfl, hr3, h⟩
theorem dX11_filled_0 : decode cX11_filled 0 = .ok (.iload_n 1, 1) := by decide +kernel
theorem dX11_filled_1 : decode cX11_filled 1 = .ok (.ifCond .lt 9, 3) := by decide +kernel
theorem dX11_filled_4 : decode cX11_filled 4 = .ok (.iload_n 1, 1) := by decide +kernel
theorem dX11_filled_5 : decode cX11_filled 5 = .ok (.bipush 16, 2) := by decide +kernel
theorem dX11_filled_7 : decode cX11_filled 7 = .ok (.if_icmp .lt 5, 3) := by decide +kernel
theorem dX11_filled_10 : decode cX11_filled 10 = .ok (.iconst (-1), 1) := by decide +kernel
theorem dX11_filled_11 : decode cX11_filled 11 = .ok (.ireturn, 1) := by decide +kernel
theorem dX11_filled_12 : decode cX11_filled 12 = .ok (.aload_n 0, 1) := by decide +kernel
theorem dX11_filled_13 : decode cX11_filled 13 = .ok (.getfield 60, 3) := by decide +kernel
theorem dX11_filled_16 : decode cX11_filled 16 = .ok (.getfield 184, 3) := by decide +kernel
theorem dX11_filled_19 : decode cX11_filled 19 = .ok (.iload_n 1, 1) := by decide +kernel
theorem dX11_filled_20 : decode cX11_filled 20 = .ok (.iaload, 1) := by decide +kernel
theorem dX11_filled_21 : decode cX11_filled 21 = .ok (.ireturn, 1) := by decide +kernel
set_option maxRecDepth 20000 in
theorem E_X11_filled {G : xG} {l : Launch} {d : Nat} {P : Int → xMem → Prop} {v1 : Int} {μ : xMem} (h : (iR v1 ∧ (v1 < 0 → P (-1) μ) ∧ (0 ≤ v1 → ((v1 < 16 → ((0 ≤ v1 ∧ v1 < 16) ∧ (iR (μ 63 v1) ∧ P (μ 63 v1) μ))) ∧ (16 ≤ v1 → P (-1) μ))))) : CI G l (d + 1) mX11_filled [xr G 0, xi v1] μ P := by
  refine CC.ofRR (ll := [some (xr G 0), some (xi v1)]) (by decide +kernel) (Nat.le_of_ble_eq_true rfl) rfl (fun h => by cases h) ?_
  refine xr_iload_n dX11_filled_0 rfl ?_
  obtain ⟨q1, hT2, hF3⟩ := h
  refine xr_if_lt (tgt := 10) dX11_filled_1 (by decide) q1  (fun c => ?_) (fun c => ?_)
  · have h := hT2 c
    refine xr_iconst dX11_filled_10 ?_
    exact xr_iret dX11_filled_11 rfl ⟨rfl, _, rfl, (by decide), h⟩
  · have h := hF3 (Int.not_lt.mp c)
    refine xr_iload_n dX11_filled_4 rfl ?_
    refine xr_bipush dX11_filled_5 (by decide) ?_
    obtain ⟨hT4, hF5⟩ := h
    refine xr_icmp_lt (tgt := 12) dX11_filled_7 (by decide) q1 (by decide) (fun c => ?_) (fun c => ?_)
    · have h := hT4 c
      refine xr_aload_n dX11_filled_12 rfl ?_
      refine xr_getR dX11_filled_13 fl_X11_60 L_0 rfl ?_
      refine xr_getR dX11_filled_16 fl_X11_184 L_58 rfl ?_
      refine xr_iload_n dX11_filled_19 rfl ?_
      obtain ⟨q6, h⟩ := h
      refine xr_iaload' (v := μ 63 v1) dX11_filled_20 L_63 rfl (by decide) q6 rfl ?_
      obtain ⟨q7, h⟩ := h
      exact xr_iret dX11_filled_21 rfl ⟨rfl, _, rfl, q7, h⟩
    · have h := hF5 (Int.not_lt.mp c)
      refine xr_iconst dX11_filled_10 ?_
      exact xr_iret dX11_filled_11 rfl ⟨rfl, _, rfl, (by decide), h⟩
theorem dX11_unfair_0 : decode cX11_unfair 0 = .ok (.aload_n 0, 1) := by decide +kernel
theorem dX11_unfair_1 : decode cX11_unfair 1 = .ok (.getfield 44, 3) := by decide +kernel
theorem dX11_unfair_4 : decode cX11_unfair 4 = .ok (.aload_n 0, 1) := by decide +kernel
theorem dX11_unfair_5 : decode cX11_unfair 5 = .ok (.getfield 51, 3) := by decide +kernel
theorem dX11_unfair_8 : decode cX11_unfair 8 = .ok (.iload_n 1, 1) := by decide +kernel
theorem dX11_unfair_9 : decode cX11_unfair 9 = .ok (.invokevirtual 167, 3) := by decide +kernel
theorem dX11_unfair_12 : decode cX11_unfair 12 = .ok (.aload_n 0, 1) := by decide +kernel
theorem dX11_unfair_13 : decode cX11_unfair 13 = .ok (.getfield 67, 3) := by decide +kernel
theorem dX11_unfair_16 : decode cX11_unfair 16 = .ok (.iload_n 1, 1) := by decide +kernel
theorem dX11_unfair_17 : decode cX11_unfair 17 = .ok (.invokevirtual 187, 3) := by decide +kernel
theorem dX11_unfair_20 : decode cX11_unfair 20 = .ok (.ireturn, 1) := by decide +kernel
set_option maxRecDepth 20000 in
theorem E_X11_unfair {G : xG} {l : Launch} {d : Nat} {P : Int → xMem → Prop} {v1 : Int} {μ : xMem} (h : CV G l d mX6_recallLights [xr G 40, xr G 46, xi v1] μ (fun m2 => CI G l d mX1_reviewAll [xr G 64, xi v1] m2 (fun r3 m4 => P r3 m4))) : CI G l (d + 1) mX11_unfair [xr G 0, xi v1] μ P := by
  refine CC.ofRR (ll := [some (xr G 0), some (xi v1)]) (by decide +kernel) (Nat.le_of_ble_eq_true rfl) rfl (fun h => by cases h) ?_
  refine xr_aload_n dX11_unfair_0 rfl ?_
  refine xr_getR dX11_unfair_1 fl_X11_44 L_0 rfl ?_
  refine xr_aload_n dX11_unfair_4 rfl ?_
  refine xr_getR dX11_unfair_5 fl_X11_51 L_0 rfl ?_
  refine xr_iload_n dX11_unfair_8 rfl ?_
  refine xr_cvV (As := [xr G 46, xi v1]) dX11_unfair_9 mi_X6_recallLights ml_X11_167 se_X6_recallLights L_40 rfl rfl rfl (Nat.le_of_ble_eq_true rfl) h (fun m2 h => ?_)
  refine xr_aload_n dX11_unfair_12 rfl ?_
  refine xr_getR dX11_unfair_13 fl_X11_67 L_0 rfl ?_
  refine xr_iload_n dX11_unfair_16 rfl ?_
  refine xr_cvI (As := [xi v1]) dX11_unfair_17 mi_X1_reviewAll ml_X11_187 se_X1_reviewAll L_64 rfl rfl rfl (Nat.le_of_ble_eq_true rfl) h (fun r3 m4 hr3 h => ?_)
  exact xr_iret dX11_unfair_20 rfl ⟨rfl, _, rfl, hr3, h⟩
theorem dX11_send_0 : decode cX11_send 0 = .ok (.aload_n 0, 1) := by decide +kernel
theorem dX11_send_1 : decode cX11_send 1 = .ok (.invokevirtual 89, 3) := by decide +kernel
theorem dX11_send_4 : decode cX11_send 4 = .ok (.istore_n 1, 1) := by decide +kernel
theorem dX11_send_5 : decode cX11_send 5 = .ok (.aload_n 0, 1) := by decide +kernel
theorem dX11_send_6 : decode cX11_send 6 = .ok (.getfield 74, 3) := by decide +kernel
theorem dX11_send_9 : decode cX11_send 9 = .ok (.aload_n 0, 1) := by decide +kernel
theorem dX11_send_10 : decode cX11_send 10 = .ok (.getfield 9, 3) := by decide +kernel
theorem dX11_send_13 : decode cX11_send 13 = .ok (.iload_n 1, 1) := by decide +kernel
theorem dX11_send_14 : decode cX11_send 14 = .ok (.aload_n 0, 1) := by decide +kernel
theorem dX11_send_15 : decode cX11_send 15 = .ok (.getfield 86, 3) := by decide +kernel
theorem dX11_send_18 : decode cX11_send 18 = .ok (.invokevirtual 200, 3) := by decide +kernel
theorem dX11_send_21 : decode cX11_send 21 = .ok (.ireturn, 1) := by decide +kernel
set_option maxRecDepth 20000 in
theorem E_X11_send {G : xG} {l : Launch} {d : Nat} {P : Int → xMem → Prop} {μ : xMem} (h : CI G l d mX11_takeTape [xr G 0] μ (fun r1 m2 => CI G l d mX7_addGrid [xr G 67, xr G 1, xi r1, xi (m2 0 2)] m2 (fun r3 m4 => P r3 m4))) : CI G l (d + 1) mX11_send [xr G 0] μ P := by
  refine CC.ofRR (ll := [some (xr G 0), none]) (by decide +kernel) (Nat.le_of_ble_eq_true rfl) rfl (fun h => by cases h) ?_
  refine xr_aload_n dX11_send_0 rfl ?_
  refine xr_cvI (As := []) dX11_send_1 mi_X11_takeTape ml_X11_89 se_X11_takeTape L_0 rfl rfl rfl (Nat.le_of_ble_eq_true rfl) h (fun r1 m2 hr1 h => ?_)
  refine xr_istore_n' (ll' := [some (xr G 0), some (xi r1)]) dX11_send_4 (by decide) rfl rfl ?_
  refine xr_aload_n dX11_send_5 rfl ?_
  refine xr_getR dX11_send_6 fl_X11_74 L_0 rfl ?_
  refine xr_aload_n dX11_send_9 rfl ?_
  refine xr_getR dX11_send_10 fl_X11_9 L_0 rfl ?_
  refine xr_iload_n dX11_send_13 rfl ?_
  refine xr_aload_n dX11_send_14 rfl ?_
  refine xr_getI' (v := m2 0 2) dX11_send_15 fl_X11_86 L_0 rfl rfl rfl ?_
  refine xr_cvI (As := [xr G 1, xi r1, xi (m2 0 2)]) dX11_send_18 mi_X7_addGrid ml_X11_200 se_X7_addGrid L_67 rfl rfl rfl (Nat.le_of_ble_eq_true rfl) h (fun r3 m4 hr3 h => ?_)
  exact xr_iret dX11_send_21 rfl ⟨rfl, _, rfl, hr3, h⟩
theorem dX11_right_0 : decode cX11_right 0 = .ok (.iload_n 1, 1) := by decide +kernel
theorem dX11_right_1 : decode cX11_right 1 = .ok (.ifCond .lt 17, 3) := by decide +kernel
theorem dX11_right_4 : decode cX11_right 4 = .ok (.iload_n 1, 1) := by decide +kernel
theorem dX11_right_5 : decode cX11_right 5 = .ok (.aload_n 0, 1) := by decide +kernel
theorem dX11_right_6 : decode cX11_right 6 = .ok (.getfield 74, 3) := by decide +kernel
theorem dX11_right_9 : decode cX11_right 9 = .ok (.getfield 203, 3) := by decide +kernel
theorem dX11_right_12 : decode cX11_right 12 = .ok (.getfield 207, 3) := by decide +kernel
theorem dX11_right_15 : decode cX11_right 15 = .ok (.if_icmp .lt 5, 3) := by decide +kernel
theorem dX11_right_18 : decode cX11_right 18 = .ok (.iconst (-1), 1) := by decide +kernel
theorem dX11_right_19 : decode cX11_right 19 = .ok (.ireturn, 1) := by decide +kernel
theorem dX11_right_20 : decode cX11_right 20 = .ok (.aload_n 0, 1) := by decide +kernel
theorem dX11_right_21 : decode cX11_right 21 = .ok (.getfield 44, 3) := by decide +kernel
theorem dX11_right_24 : decode cX11_right 24 = .ok (.aload_n 0, 1) := by decide +kernel
theorem dX11_right_25 : decode cX11_right 25 = .ok (.getfield 51, 3) := by decide +kernel
theorem dX11_right_28 : decode cX11_right 28 = .ok (.iload_n 2, 1) := by decide +kernel
theorem dX11_right_29 : decode cX11_right 29 = .ok (.invokevirtual 167, 3) := by decide +kernel
theorem dX11_right_32 : decode cX11_right 32 = .ok (.aload_n 0, 1) := by decide +kernel
theorem dX11_right_33 : decode cX11_right 33 = .ok (.getfield 74, 3) := by decide +kernel
theorem dX11_right_36 : decode cX11_right 36 = .ok (.iload_n 1, 1) := by decide +kernel
theorem dX11_right_37 : decode cX11_right 37 = .ok (.iload_n 2, 1) := by decide +kernel
theorem dX11_right_38 : decode cX11_right 38 = .ok (.invokevirtual 210, 3) := by decide +kernel
theorem dX11_right_41 : decode cX11_right 41 = .ok (.ifCond .eq 7, 3) := by decide +kernel
theorem dX11_right_44 : decode cX11_right 44 = .ok (.iconst 1, 1) := by decide +kernel
theorem dX11_right_45 : decode cX11_right 45 = .ok (.goto 4, 3) := by decide +kernel
theorem dX11_right_48 : decode cX11_right 48 = .ok (.iconst 0, 1) := by decide +kernel
theorem dX11_right_49 : decode cX11_right 49 = .ok (.ireturn, 1) := by decide +kernel
set_option maxRecDepth 20000 in
theorem E_X11_right {G : xG} {l : Launch} {d : Nat} {P : Int → xMem → Prop} {v1 v2 : Int} {μ : xMem} (h : (iR v1 ∧ (v1 < 0 → P (-1) μ) ∧ (0 ≤ v1 → (iR (μ 68 2) ∧ (v1 < (μ 68 2) → CV G l d mX6_recallLights [xr G 40, xr G 46, xi v2] μ (fun m8 => CI G l d mX7_isRight [xr G 67, xi v1, xi v2] m8 (fun r9 m10 => ((r9 = 0 → P 0 m10) ∧ (r9 ≠ 0 → P 1 m10))))) ∧ ((μ 68 2) ≤ v1 → P (-1) μ))))) : CI G l (d + 1) mX11_right [xr G 0, xi v1, xi v2] μ P := by
  refine CC.ofRR (ll := [some (xr G 0), some (xi v1), some (xi v2)]) (by decide +kernel) (Nat.le_of_ble_eq_true rfl) rfl (fun h => by cases h) ?_
  refine xr_iload_n dX11_right_0 rfl ?_
  obtain ⟨q1, hT2, hF3⟩ := h
  refine xr_if_lt (tgt := 18) dX11_right_1 (by decide) q1  (fun c => ?_) (fun c => ?_)
  · have h := hT2 c
    refine xr_iconst dX11_right_18 ?_
    exact xr_iret dX11_right_19 rfl ⟨rfl, _, rfl, (by decide), h⟩
  · have h := hF3 (Int.not_lt.mp c)
    refine xr_iload_n dX11_right_4 rfl ?_
    refine xr_aload_n dX11_right_5 rfl ?_
    refine xr_getR dX11_right_6 fl_X11_74 L_0 rfl ?_
    refine xr_getR dX11_right_9 fl_X11_203 L_67 rfl ?_
    refine xr_getI' (v := μ 68 2) dX11_right_12 fl_X11_207 L_68 rfl rfl rfl ?_
    obtain ⟨q4, hT5, hF6⟩ := h
    refine xr_icmp_lt (tgt := 20) dX11_right_15 (by decide) q1 q4 (fun c => ?_) (fun c => ?_)
    · have h := hT5 c
      refine xr_aload_n dX11_right_20 rfl ?_
      refine xr_getR dX11_right_21 fl_X11_44 L_0 rfl ?_
      refine xr_aload_n dX11_right_24 rfl ?_
      refine xr_getR dX11_right_25 fl_X11_51 L_0 rfl ?_
      refine xr_iload_n dX11_right_28 rfl ?_
      refine xr_cvV (As := [xr G 46, xi v2]) dX11_right_29 mi_X6_recallLights ml_X11_167 se_X6_recallLights L_40 rfl rfl rfl (Nat.le_of_ble_eq_true rfl) h (fun m8 h => ?_)
      refine xr_aload_n dX11_right_32 rfl ?_
      refine xr_getR dX11_right_33 fl_X11_74 L_0 rfl ?_
      refine xr_iload_n dX11_right_36 rfl ?_
      refine xr_iload_n dX11_right_37 rfl ?_
      refine xr_cvI (As := [xi v1, xi v2]) dX11_right_38 mi_X7_isRight ml_X11_210 se_X7_isRight L_67 rfl rfl rfl (Nat.le_of_ble_eq_true rfl) h (fun r9 m10 hr9 h => ?_)
      obtain ⟨hT11, hF12⟩ := h
      refine xr_if_eq (tgt := 48) dX11_right_41 (by decide) hr9  (fun c => ?_) (fun c => ?_)
      · have h := hT11 c
        refine xr_iconst dX11_right_48 ?_
        exact xr_iret dX11_right_49 rfl ⟨rfl, _, rfl, (by decide), h⟩
      · have h := hF12 c
        refine xr_iconst dX11_right_44 ?_
        refine xr_goto (tgt := 49) dX11_right_45 (by decide) ?_
        exact xr_iret dX11_right_49 rfl ⟨rfl, _, rfl, (by decide), h⟩
    · have h := hF6 (Int.not_lt.mp c)
      refine xr_iconst dX11_right_18 ?_
      exact xr_iret dX11_right_19 rfl ⟨rfl, _, rfl, (by decide), h⟩
theorem dX11_winner_0 : decode cX11_winner 0 = .ok (.aload_n 0, 1) := by decide +kernel
theorem dX11_winner_1 : decode cX11_winner 1 = .ok (.getfield 44, 3) := by decide +kernel
theorem dX11_winner_4 : decode cX11_winner 4 = .ok (.aload_n 0, 1) := by decide +kernel
theorem dX11_winner_5 : decode cX11_winner 5 = .ok (.getfield 51, 3) := by decide +kernel
theorem dX11_winner_8 : decode cX11_winner 8 = .ok (.iload_n 1, 1) := by decide +kernel
theorem dX11_winner_9 : decode cX11_winner 9 = .ok (.invokevirtual 167, 3) := by decide +kernel
theorem dX11_winner_12 : decode cX11_winner 12 = .ok (.iconst 0, 1) := by decide +kernel
theorem dX11_winner_13 : decode cX11_winner 13 = .ok (.istore_n 2, 1) := by decide +kernel
theorem dX11_winner_14 : decode cX11_winner 14 = .ok (.iload_n 2, 1) := by decide +kernel
theorem dX11_winner_15 : decode cX11_winner 15 = .ok (.aload_n 0, 1) := by decide +kernel
theorem dX11_winner_16 : decode cX11_winner 16 = .ok (.getfield 74, 3) := by decide +kernel
theorem dX11_winner_19 : decode cX11_winner 19 = .ok (.getfield 203, 3) := by decide +kernel
theorem dX11_winner_22 : decode cX11_winner 22 = .ok (.getfield 207, 3) := by decide +kernel
theorem dX11_winner_25 : decode cX11_winner 25 = .ok (.if_icmp .ge 23, 3) := by decide +kernel
theorem dX11_winner_28 : decode cX11_winner 28 = .ok (.aload_n 0, 1) := by decide +kernel
theorem dX11_winner_29 : decode cX11_winner 29 = .ok (.getfield 74, 3) := by decide +kernel
theorem dX11_winner_32 : decode cX11_winner 32 = .ok (.iload_n 2, 1) := by decide +kernel
theorem dX11_winner_33 : decode cX11_winner 33 = .ok (.iload_n 1, 1) := by decide +kernel
theorem dX11_winner_34 : decode cX11_winner 34 = .ok (.invokevirtual 210, 3) := by decide +kernel
theorem dX11_winner_37 : decode cX11_winner 37 = .ok (.ifCond .eq 5, 3) := by decide +kernel
theorem dX11_winner_40 : decode cX11_winner 40 = .ok (.iload_n 2, 1) := by decide +kernel
theorem dX11_winner_41 : decode cX11_winner 41 = .ok (.ireturn, 1) := by decide +kernel
theorem dX11_winner_42 : decode cX11_winner 42 = .ok (.iinc 2 1, 3) := by decide +kernel
theorem dX11_winner_45 : decode cX11_winner 45 = .ok (.goto (-31), 3) := by decide +kernel
theorem dX11_winner_48 : decode cX11_winner 48 = .ok (.iconst (-1), 1) := by decide +kernel
theorem dX11_winner_49 : decode cX11_winner 49 = .ok (.ireturn, 1) := by decide +kernel
def K_X11_winner_14 (G : xG) (l : Launch) (d : Nat) (P : Int → xMem → Prop) (v1 v2 : Int) (μ : xMem) : Prop := RR G l d 0 0 false mX11_winner (qI P) 14 [some (xr G 0), some (xi v1), some (xi v2)] [] LAY μ 0 0
set_option maxRecDepth 20000 in
theorem E_X11_winner {G : xG} {l : Launch} {d : Nat} {P : Int → xMem → Prop} {v1 : Int} {μ : xMem} (h : CV G l d mX6_recallLights [xr G 40, xr G 46, xi v1] μ (fun m2 => K_X11_winner_14 G l (d + 1) P v1 0 m2)) : CI G l (d + 1) mX11_winner [xr G 0, xi v1] μ P := by
  refine CC.ofRR (ll := [some (xr G 0), some (xi v1), none]) (by decide +kernel) (Nat.le_of_ble_eq_true rfl) rfl (fun h => by cases h) ?_
  refine xr_aload_n dX11_winner_0 rfl ?_
  refine xr_getR dX11_winner_1 fl_X11_44 L_0 rfl ?_
  refine xr_aload_n dX11_winner_4 rfl ?_
  refine xr_getR dX11_winner_5 fl_X11_51 L_0 rfl ?_
  refine xr_iload_n dX11_winner_8 rfl ?_
  refine xr_cvV (As := [xr G 46, xi v1]) dX11_winner_9 mi_X6_recallLights ml_X11_167 se_X6_recallLights L_40 rfl rfl rfl (Nat.le_of_ble_eq_true rfl) h (fun m2 h => ?_)
  refine xr_iconst dX11_winner_12 ?_
  refine xr_istore_n' (ll' := [some (xr G 0), some (xi v1), some (xi 0)]) dX11_winner_13 (by decide) rfl rfl ?_
  exact h
set_option maxRecDepth 20000 in
theorem B_X11_winner_14 {G : xG} {l : Launch} {d : Nat} {P : Int → xMem → Prop} {v1 v2 : Int} {μ : xMem} (h : (iR v2 ∧ iR (μ 68 2) ∧ ((μ 68 2) ≤ v2 → P (-1) μ) ∧ (v2 < (μ 68 2) → CI G l d mX7_isRight [xr G 67, xi v2, xi v1] μ (fun r5 m6 => ((r5 = 0 → K_X11_winner_14 G l (d + 1) P v1 (v2 + 1) m6) ∧ (r5 ≠ 0 → P v2 m6)))))) : K_X11_winner_14 G l (d + 1) P v1 v2 μ := by
  unfold K_X11_winner_14
  refine xr_iload_n dX11_winner_14 rfl ?_
  refine xr_aload_n dX11_winner_15 rfl ?_
  refine xr_getR dX11_winner_16 fl_X11_74 L_0 rfl ?_
  refine xr_getR dX11_winner_19 fl_X11_203 L_67 rfl ?_
  refine xr_getI' (v := μ 68 2) dX11_winner_22 fl_X11_207 L_68 rfl rfl rfl ?_
  obtain ⟨q1, q2, hT3, hF4⟩ := h
  refine xr_icmp_ge (tgt := 48) dX11_winner_25 (by decide) q1 q2 (fun c => ?_) (fun c => ?_)
  · have h := hT3 c
    refine xr_iconst dX11_winner_48 ?_
    exact xr_iret dX11_winner_49 rfl ⟨rfl, _, rfl, (by decide), h⟩
  · have h := hF4 (Int.not_le.mp c)
    refine xr_aload_n dX11_winner_28 rfl ?_
    refine xr_getR dX11_winner_29 fl_X11_74 L_0 rfl ?_
    refine xr_iload_n dX11_winner_32 rfl ?_
    refine xr_iload_n dX11_winner_33 rfl ?_
    refine xr_cvI (As := [xi v2, xi v1]) dX11_winner_34 mi_X7_isRight ml_X11_210 se_X7_isRight L_67 rfl rfl rfl (Nat.le_of_ble_eq_true rfl) h (fun r5 m6 hr5 h => ?_)
    obtain ⟨hT7, hF8⟩ := h
    refine xr_if_eq (tgt := 42) dX11_winner_37 (by decide) hr5  (fun c => ?_) (fun c => ?_)
    · have h := hT7 c
      refine xr_iinc' (ll' := [some (xr G 0), some (xi v1), some (xi (v2 + 1))]) dX11_winner_42 rfl (by decide) rfl rfl ?_
      refine xr_goto (tgt := 14) dX11_winner_45 (by decide) ?_
      exact h
    · have h := hF8 c
      refine xr_iload_n dX11_winner_40 rfl ?_
      exact xr_iret dX11_winner_41 rfl ⟨rfl, _, rfl, q1, h⟩
theorem dX11_count_0 : decode cX11_count 0 = .ok (.iload_n 1, 1) := by decide +kernel
theorem dX11_count_1 : decode cX11_count 1 = .ok (.tableswitch 126 0 8 #[51, 56, 67, 78, 89, 97, 105, 116, 121], 51) := by decide +kernel
theorem dX11_count_52 : decode cX11_count 52 = .ok (.aload_n 0, 1) := by decide +kernel
theorem dX11_count_53 : decode cX11_count 53 = .ok (.getfield 86, 3) := by decide +kernel
theorem dX11_count_56 : decode cX11_count 56 = .ok (.ireturn, 1) := by decide +kernel
theorem dX11_count_57 : decode cX11_count 57 = .ok (.aload_n 0, 1) := by decide +kernel
theorem dX11_count_58 : decode cX11_count 58 = .ok (.getfield 19, 3) := by decide +kernel
theorem dX11_count_61 : decode cX11_count 61 = .ok (.getfield 213, 3) := by decide +kernel
theorem dX11_count_64 : decode cX11_count 64 = .ok (.getfield 207, 3) := by decide +kernel
theorem dX11_count_67 : decode cX11_count 67 = .ok (.ireturn, 1) := by decide +kernel
theorem dX11_count_68 : decode cX11_count 68 = .ok (.aload_n 0, 1) := by decide +kernel
theorem dX11_count_69 : decode cX11_count 69 = .ok (.getfield 19, 3) := by decide +kernel
theorem dX11_count_72 : decode cX11_count 72 = .ok (.getfield 216, 3) := by decide +kernel
theorem dX11_count_75 : decode cX11_count 75 = .ok (.getfield 207, 3) := by decide +kernel
theorem dX11_count_78 : decode cX11_count 78 = .ok (.ireturn, 1) := by decide +kernel
theorem dX11_count_79 : decode cX11_count 79 = .ok (.aload_n 0, 1) := by decide +kernel
theorem dX11_count_80 : decode cX11_count 80 = .ok (.getfield 19, 3) := by decide +kernel
theorem dX11_count_83 : decode cX11_count 83 = .ok (.getfield 219, 3) := by decide +kernel
theorem dX11_count_86 : decode cX11_count 86 = .ok (.getfield 207, 3) := by decide +kernel
theorem dX11_count_89 : decode cX11_count 89 = .ok (.ireturn, 1) := by decide +kernel
theorem dX11_count_90 : decode cX11_count 90 = .ok (.aload_n 0, 1) := by decide +kernel
theorem dX11_count_91 : decode cX11_count 91 = .ok (.getfield 26, 3) := by decide +kernel
theorem dX11_count_94 : decode cX11_count 94 = .ok (.getfield 222, 3) := by decide +kernel
theorem dX11_count_97 : decode cX11_count 97 = .ok (.ireturn, 1) := by decide +kernel
theorem dX11_count_98 : decode cX11_count 98 = .ok (.aload_n 0, 1) := by decide +kernel
theorem dX11_count_99 : decode cX11_count 99 = .ok (.getfield 51, 3) := by decide +kernel
theorem dX11_count_102 : decode cX11_count 102 = .ok (.getfield 224, 3) := by decide +kernel
theorem dX11_count_105 : decode cX11_count 105 = .ok (.ireturn, 1) := by decide +kernel
theorem dX11_count_106 : decode cX11_count 106 = .ok (.aload_n 0, 1) := by decide +kernel
theorem dX11_count_107 : decode cX11_count 107 = .ok (.getfield 74, 3) := by decide +kernel
theorem dX11_count_110 : decode cX11_count 110 = .ok (.getfield 203, 3) := by decide +kernel
theorem dX11_count_113 : decode cX11_count 113 = .ok (.getfield 207, 3) := by decide +kernel
theorem dX11_count_116 : decode cX11_count 116 = .ok (.ireturn, 1) := by decide +kernel
theorem dX11_count_117 : decode cX11_count 117 = .ok (.aload_n 0, 1) := by decide +kernel
theorem dX11_count_118 : decode cX11_count 118 = .ok (.getfield 78, 3) := by decide +kernel
theorem dX11_count_121 : decode cX11_count 121 = .ok (.ireturn, 1) := by decide +kernel
theorem dX11_count_122 : decode cX11_count 122 = .ok (.aload_n 0, 1) := by decide +kernel
theorem dX11_count_123 : decode cX11_count 123 = .ok (.getfield 141, 3) := by decide +kernel
theorem dX11_count_126 : decode cX11_count 126 = .ok (.ireturn, 1) := by decide +kernel
theorem dX11_count_127 : decode cX11_count 127 = .ok (.iconst (-1), 1) := by decide +kernel
theorem dX11_count_128 : decode cX11_count 128 = .ok (.ireturn, 1) := by decide +kernel
set_option maxRecDepth 20000 in
theorem E_X11_count {G : xG} {l : Launch} {d : Nat} {P : Int → xMem → Prop} {v1 : Int} {μ : xMem} (h : (iR v1 ∧ (v1 = 0 → (iR (μ 0 2) ∧ P (μ 0 2) μ)) ∧ (v1 = 1 → (iR (μ 4 2) ∧ P (μ 4 2) μ)) ∧ (v1 = 2 → (iR (μ 7 2) ∧ P (μ 7 2) μ)) ∧ (v1 = 3 → (iR (μ 10 2) ∧ P (μ 10 2) μ)) ∧ (v1 = 4 → (iR (μ 19 4) ∧ P (μ 19 4) μ)) ∧ (v1 = 5 → (iR (μ 46 9) ∧ P (μ 46 9) μ)) ∧ (v1 = 6 → (iR (μ 68 2) ∧ P (μ 68 2) μ)) ∧ (v1 = 7 → (iR (μ 0 1) ∧ P (μ 0 1) μ)) ∧ (v1 = 8 → (iR (μ 0 4) ∧ P (μ 0 4) μ)) ∧ (v1 < 0 ∨ 8 < v1 → P (-1) μ))) : CI G l (d + 1) mX11_count [xr G 0, xi v1] μ P := by
  refine CC.ofRR (ll := [some (xr G 0), some (xi v1)]) (by decide +kernel) (Nat.le_of_ble_eq_true rfl) rfl (fun h => by cases h) ?_
  refine xr_iload_n dX11_count_0 rfl ?_
  obtain ⟨q1, hC3, hC5, hC7, hC9, hC11, hC13, hC15, hC17, hC19, hD20⟩ := h
  by_cases c0 : v1 = 0
  · have h := hC3 c0
    refine xr_tabIn (tgt := 52) dX11_count_1 q1 (by omega) (by omega) (by rw [c0]; rfl) (by decide) ?_
    refine xr_aload_n dX11_count_52 rfl ?_
    refine xr_getI' (v := μ 0 2) dX11_count_53 fl_X11_86 L_0 rfl rfl rfl ?_
    obtain ⟨q2, h⟩ := h
    exact xr_iret dX11_count_56 rfl ⟨rfl, _, rfl, q2, h⟩
  by_cases c1 : v1 = 1
  · have h := hC5 c1
    refine xr_tabIn (tgt := 57) dX11_count_1 q1 (by omega) (by omega) (by rw [c1]; rfl) (by decide) ?_
    refine xr_aload_n dX11_count_57 rfl ?_
    refine xr_getR dX11_count_58 fl_X11_19 L_0 rfl ?_
    refine xr_getR dX11_count_61 fl_X11_213 L_3 rfl ?_
    refine xr_getI' (v := μ 4 2) dX11_count_64 fl_X11_207 L_4 rfl rfl rfl ?_
    obtain ⟨q4, h⟩ := h
    exact xr_iret dX11_count_67 rfl ⟨rfl, _, rfl, q4, h⟩
  by_cases c2 : v1 = 2
  · have h := hC7 c2
    refine xr_tabIn (tgt := 68) dX11_count_1 q1 (by omega) (by omega) (by rw [c2]; rfl) (by decide) ?_
    refine xr_aload_n dX11_count_68 rfl ?_
    refine xr_getR dX11_count_69 fl_X11_19 L_0 rfl ?_
    refine xr_getR dX11_count_72 fl_X11_216 L_3 rfl ?_
    refine xr_getI' (v := μ 7 2) dX11_count_75 fl_X11_207 L_7 rfl rfl rfl ?_
    obtain ⟨q6, h⟩ := h
    exact xr_iret dX11_count_78 rfl ⟨rfl, _, rfl, q6, h⟩
  by_cases c3 : v1 = 3
  · have h := hC9 c3
    refine xr_tabIn (tgt := 79) dX11_count_1 q1 (by omega) (by omega) (by rw [c3]; rfl) (by decide) ?_
    refine xr_aload_n dX11_count_79 rfl ?_
    refine xr_getR dX11_count_80 fl_X11_19 L_0 rfl ?_
    refine xr_getR dX11_count_83 fl_X11_219 L_3 rfl ?_
    refine xr_getI' (v := μ 10 2) dX11_count_86 fl_X11_207 L_10 rfl rfl rfl ?_
    obtain ⟨q8, h⟩ := h
    exact xr_iret dX11_count_89 rfl ⟨rfl, _, rfl, q8, h⟩
  by_cases c4 : v1 = 4
  · have h := hC11 c4
    refine xr_tabIn (tgt := 90) dX11_count_1 q1 (by omega) (by omega) (by rw [c4]; rfl) (by decide) ?_
    refine xr_aload_n dX11_count_90 rfl ?_
    refine xr_getR dX11_count_91 fl_X11_26 L_0 rfl ?_
    refine xr_getI' (v := μ 19 4) dX11_count_94 fl_X11_222 L_19 rfl rfl rfl ?_
    obtain ⟨q10, h⟩ := h
    exact xr_iret dX11_count_97 rfl ⟨rfl, _, rfl, q10, h⟩
  by_cases c5 : v1 = 5
  · have h := hC13 c5
    refine xr_tabIn (tgt := 98) dX11_count_1 q1 (by omega) (by omega) (by rw [c5]; rfl) (by decide) ?_
    refine xr_aload_n dX11_count_98 rfl ?_
    refine xr_getR dX11_count_99 fl_X11_51 L_0 rfl ?_
    refine xr_getI' (v := μ 46 9) dX11_count_102 fl_X11_224 L_46 rfl rfl rfl ?_
    obtain ⟨q12, h⟩ := h
    exact xr_iret dX11_count_105 rfl ⟨rfl, _, rfl, q12, h⟩
  by_cases c6 : v1 = 6
  · have h := hC15 c6
    refine xr_tabIn (tgt := 106) dX11_count_1 q1 (by omega) (by omega) (by rw [c6]; rfl) (by decide) ?_
    refine xr_aload_n dX11_count_106 rfl ?_
    refine xr_getR dX11_count_107 fl_X11_74 L_0 rfl ?_
    refine xr_getR dX11_count_110 fl_X11_203 L_67 rfl ?_
    refine xr_getI' (v := μ 68 2) dX11_count_113 fl_X11_207 L_68 rfl rfl rfl ?_
    obtain ⟨q14, h⟩ := h
    exact xr_iret dX11_count_116 rfl ⟨rfl, _, rfl, q14, h⟩
  by_cases c7 : v1 = 7
  · have h := hC17 c7
    refine xr_tabIn (tgt := 117) dX11_count_1 q1 (by omega) (by omega) (by rw [c7]; rfl) (by decide) ?_
    refine xr_aload_n dX11_count_117 rfl ?_
    refine xr_getI' (v := μ 0 1) dX11_count_118 fl_X11_78 L_0 rfl rfl rfl ?_
    obtain ⟨q16, h⟩ := h
    exact xr_iret dX11_count_121 rfl ⟨rfl, _, rfl, q16, h⟩
  by_cases c8 : v1 = 8
  · have h := hC19 c8
    refine xr_tabIn (tgt := 122) dX11_count_1 q1 (by omega) (by omega) (by rw [c8]; rfl) (by decide) ?_
    refine xr_aload_n dX11_count_122 rfl ?_
    refine xr_getI' (v := μ 0 4) dX11_count_123 fl_X11_141 L_0 rfl rfl rfl ?_
    obtain ⟨q18, h⟩ := h
    exact xr_iret dX11_count_126 rfl ⟨rfl, _, rfl, q18, h⟩
  have h := hD20 (by omega)
  refine xr_tabOut (tgt := 127) dX11_count_1 q1 (by omega) (by decide) ?_
  refine xr_iconst dX11_count_127 ?_
  exact xr_iret dX11_count_128 rfl ⟨rfl, _, rfl, (by decide), h⟩
theorem dX11_putNumber_0 : decode cX11_putNumber 0 = .ok (.bipush 24, 2) := by decide +kernel
theorem dX11_putNumber_2 : decode cX11_putNumber 2 = .ok (.istore_n 2, 1) := by decide +kernel
theorem dX11_putNumber_3 : decode cX11_putNumber 3 = .ok (.iload_n 2, 1) := by decide +kernel
theorem dX11_putNumber_4 : decode cX11_putNumber 4 = .ok (.ifCond .lt 45, 3) := by decide +kernel
theorem dX11_putNumber_7 : decode cX11_putNumber 7 = .ok (.aload_n 0, 1) := by decide +kernel
theorem dX11_putNumber_8 : decode cX11_putNumber 8 = .ok (.getfield 78, 3) := by decide +kernel
theorem dX11_putNumber_11 : decode cX11_putNumber 11 = .ok (.sipush 180, 3) := by decide +kernel
theorem dX11_putNumber_14 : decode cX11_putNumber 14 = .ok (.if_icmp .ge 29, 3) := by decide +kernel
theorem dX11_putNumber_17 : decode cX11_putNumber 17 = .ok (.aload_n 0, 1) := by decide +kernel
theorem dX11_putNumber_18 : decode cX11_putNumber 18 = .ok (.getfield 9, 3) := by decide +kernel
theorem dX11_putNumber_21 : decode cX11_putNumber 21 = .ok (.aload_n 0, 1) := by decide +kernel
theorem dX11_putNumber_22 : decode cX11_putNumber 22 = .ok (.getfield 78, 3) := by decide +kernel
theorem dX11_putNumber_25 : decode cX11_putNumber 25 = .ok (.iload_n 1, 1) := by decide +kernel
theorem dX11_putNumber_26 : decode cX11_putNumber 26 = .ok (.iload_n 2, 1) := by decide +kernel
theorem dX11_putNumber_27 : decode cX11_putNumber 27 = .ok (.iushr, 1) := by decide +kernel
theorem dX11_putNumber_28 : decode cX11_putNumber 28 = .ok (.sipush 255, 3) := by decide +kernel
theorem dX11_putNumber_31 : decode cX11_putNumber 31 = .ok (.iand, 1) := by decide +kernel
theorem dX11_putNumber_32 : decode cX11_putNumber 32 = .ok (.iastore, 1) := by decide +kernel
theorem dX11_putNumber_33 : decode cX11_putNumber 33 = .ok (.aload_n 0, 1) := by decide +kernel
theorem dX11_putNumber_34 : decode cX11_putNumber 34 = .ok (.dup, 1) := by decide +kernel
theorem dX11_putNumber_35 : decode cX11_putNumber 35 = .ok (.getfield 78, 3) := by decide +kernel
theorem dX11_putNumber_38 : decode cX11_putNumber 38 = .ok (.iconst 1, 1) := by decide +kernel
theorem dX11_putNumber_39 : decode cX11_putNumber 39 = .ok (.iadd, 1) := by decide +kernel
theorem dX11_putNumber_40 : decode cX11_putNumber 40 = .ok (.putfield 78, 3) := by decide +kernel
theorem dX11_putNumber_43 : decode cX11_putNumber 43 = .ok (.iinc 2 (-8), 3) := by decide +kernel
theorem dX11_putNumber_46 : decode cX11_putNumber 46 = .ok (.goto (-43), 3) := by decide +kernel
theorem dX11_putNumber_49 : decode cX11_putNumber 49 = .ok (.return_, 1) := by decide +kernel
def K_X11_putNumber_3 (G : xG) (l : Launch) (d : Nat) (P : xMem → Prop) (v1 v2 : Int) (μ : xMem) : Prop := RR G l d 0 0 false mX11_putNumber (qV P) 3 [some (xr G 0), some (xi v1), some (xi v2)] [] LAY μ 0 0
set_option maxRecDepth 20000 in
theorem E_X11_putNumber {G : xG} {l : Launch} {d : Nat} {P : xMem → Prop} {v1 : Int} {μ : xMem} (h : K_X11_putNumber_3 G l (d + 1) P v1 24 μ) : CV G l (d + 1) mX11_putNumber [xr G 0, xi v1] μ P := by
  refine CC.ofRR (ll := [some (xr G 0), some (xi v1), none]) (by decide +kernel) (Nat.le_of_ble_eq_true rfl) rfl (fun h => by cases h) ?_
  refine xr_bipush dX11_putNumber_0 (by decide) ?_
  refine xr_istore_n' (ll' := [some (xr G 0), some (xi v1), some (xi 24)]) dX11_putNumber_2 (by decide) rfl rfl ?_
  exact h
set_option maxRecDepth 20000 in
theorem B_X11_putNumber_3 {G : xG} {l : Launch} {d : Nat} {P : xMem → Prop} {v1 v2 : Int} {μ : xMem} (h : (iR v2 ∧ (v2 < 0 → P μ) ∧ (0 ≤ v2 → (iR (μ 0 1) ∧ (180 ≤ (μ 0 1) → K_X11_putNumber_3 G l (d + 1) P v1 (v2 + (-8)) μ) ∧ ((μ 0 1) < 180 → ((0 ≤ μ 0 1 ∧ μ 0 1 < 180) ∧ K_X11_putNumber_3 G l (d + 1) P v1 (v2 + (-8)) (st2 (st2 μ 1 (μ 0 1) (jand (jushr v1 v2) 255)) 0 1 ((μ 0 1) + 1)))))))) : K_X11_putNumber_3 G l (d + 1) P v1 v2 μ := by
  unfold K_X11_putNumber_3
  refine xr_iload_n dX11_putNumber_3 rfl ?_
  obtain ⟨q1, hT2, hF3⟩ := h
  refine xr_if_lt (tgt := 49) dX11_putNumber_4 (by decide) q1  (fun c => ?_) (fun c => ?_)
  · have h := hT2 c
    exact xr_ret dX11_putNumber_49 rfl ⟨rfl, rfl, h⟩
  · have h := hF3 (Int.not_lt.mp c)
    refine xr_aload_n dX11_putNumber_7 rfl ?_
    refine xr_getI' (v := μ 0 1) dX11_putNumber_8 fl_X11_78 L_0 rfl rfl rfl ?_
    refine xr_sipush dX11_putNumber_11 (by decide) ?_
    obtain ⟨q4, hT5, hF6⟩ := h
    refine xr_icmp_ge (tgt := 43) dX11_putNumber_14 (by decide) q4 (by decide) (fun c => ?_) (fun c => ?_)
    · have h := hT5 c
      refine xr_iinc' (ll' := [some (xr G 0), some (xi v1), some (xi (v2 + (-8)))]) dX11_putNumber_43 rfl (by decide) rfl rfl ?_
      refine xr_goto (tgt := 3) dX11_putNumber_46 (by decide) ?_
      exact h
    · have h := hF6 (Int.not_le.mp c)
      refine xr_aload_n dX11_putNumber_17 rfl ?_
      refine xr_getR dX11_putNumber_18 fl_X11_9 L_0 rfl ?_
      refine xr_aload_n dX11_putNumber_21 rfl ?_
      refine xr_getI' (v := μ 0 1) dX11_putNumber_22 fl_X11_78 L_0 rfl rfl rfl ?_
      refine xr_iload_n dX11_putNumber_25 rfl ?_
      refine xr_iload_n dX11_putNumber_26 rfl ?_
      refine xr_iushr dX11_putNumber_27 ?_
      refine xr_sipush dX11_putNumber_28 (by decide) ?_
      refine xr_iand dX11_putNumber_31 ?_
      obtain ⟨q7, h⟩ := h
      refine xr_iastore dX11_putNumber_32 L_1 rfl (by decide) q7 ?_
      refine xr_aload_n dX11_putNumber_33 rfl ?_
      refine xr_dup dX11_putNumber_34 rfl ?_
      refine xr_getI' (v := μ 0 1) dX11_putNumber_35 fl_X11_78 L_0 rfl rfl (by simp [st2, cpy]) ?_
      refine xr_iconst dX11_putNumber_38 ?_
      refine xr_iadd dX11_putNumber_39 ?_
      refine xr_putI dX11_putNumber_40 fp_X11_78 L_0 rfl rfl ⟨rfl, rfl⟩ ?_
      refine xr_iinc' (ll' := [some (xr G 0), some (xi v1), some (xi (v2 + (-8)))]) dX11_putNumber_43 rfl (by decide) rfl rfl ?_
      refine xr_goto (tgt := 3) dX11_putNumber_46 (by decide) ?_
      exact h
theorem dX11_takeTape_0 : decode cX11_takeTape 0 = .ok (.aload_n 0, 1) := by decide +kernel
theorem dX11_takeTape_1 : decode cX11_takeTape 1 = .ok (.getfield 78, 3) := by decide +kernel
theorem dX11_takeTape_4 : decode cX11_takeTape 4 = .ok (.istore_n 1, 1) := by decide +kernel
theorem dX11_takeTape_5 : decode cX11_takeTape 5 = .ok (.aload_n 0, 1) := by decide +kernel
theorem dX11_takeTape_6 : decode cX11_takeTape 6 = .ok (.iconst 0, 1) := by decide +kernel
theorem dX11_takeTape_7 : decode cX11_takeTape 7 = .ok (.putfield 78, 3) := by decide +kernel
theorem dX11_takeTape_10 : decode cX11_takeTape 10 = .ok (.iload_n 1, 1) := by decide +kernel
theorem dX11_takeTape_11 : decode cX11_takeTape 11 = .ok (.ireturn, 1) := by decide +kernel
set_option maxRecDepth 20000 in
theorem E_X11_takeTape {G : xG} {l : Launch} {d : Nat} {P : Int → xMem → Prop} {μ : xMem} (h : (iR (μ 0 1) ∧ P (μ 0 1) (st2 μ 0 1 0))) : CI G l (d + 1) mX11_takeTape [xr G 0] μ P := by
  refine CC.ofRR (ll := [some (xr G 0), none]) (by decide +kernel) (Nat.le_of_ble_eq_true rfl) rfl (fun h => by cases h) ?_
  refine xr_aload_n dX11_takeTape_0 rfl ?_
  refine xr_getI' (v := μ 0 1) dX11_takeTape_1 fl_X11_78 L_0 rfl rfl rfl ?_
  refine xr_istore_n' (ll' := [some (xr G 0), some (xi (μ 0 1))]) dX11_takeTape_4 (by decide) rfl rfl ?_
  refine xr_aload_n dX11_takeTape_5 rfl ?_
  refine xr_iconst dX11_takeTape_6 ?_
  refine xr_putI dX11_takeTape_7 fp_X11_78 L_0 rfl rfl ⟨rfl, rfl⟩ ?_
  refine xr_iload_n dX11_takeTape_10 rfl ?_
  obtain ⟨q1, h⟩ := h
  exact xr_iret dX11_takeTape_11 rfl ⟨rfl, _, rfl, q1, h⟩
theorem dX11_takeClue_0 : decode cX11_takeClue 0 = .ok (.aload_n 0, 1) := by decide +kernel
theorem dX11_takeClue_1 : decode cX11_takeClue 1 = .ok (.getfield 26, 3) := by decide +kernel
theorem dX11_takeClue_4 : decode cX11_takeClue 4 = .ok (.iload_n 1, 1) := by decide +kernel
theorem dX11_takeClue_5 : decode cX11_takeClue 5 = .ok (.iload_n 3, 1) := by decide +kernel
theorem dX11_takeClue_6 : decode cX11_takeClue 6 = .ok (.invokevirtual 226, 3) := by decide +kernel
theorem dX11_takeClue_9 : decode cX11_takeClue 9 = .ok (.istore 4, 2) := by decide +kernel
theorem dX11_takeClue_11 : decode cX11_takeClue 11 = .ok (.iload 4, 2) := by decide +kernel
theorem dX11_takeClue_13 : decode cX11_takeClue 13 = .ok (.iconst (-1), 1) := by decide +kernel
theorem dX11_takeClue_14 : decode cX11_takeClue 14 = .ok (.if_icmp .eq 36, 3) := by decide +kernel
theorem dX11_takeClue_17 : decode cX11_takeClue 17 = .ok (.aload_n 0, 1) := by decide +kernel
theorem dX11_takeClue_18 : decode cX11_takeClue 18 = .ok (.getfield 19, 3) := by decide +kernel
theorem dX11_takeClue_21 : decode cX11_takeClue 21 = .ok (.iload_n 2, 1) := by decide +kernel
theorem dX11_takeClue_22 : decode cX11_takeClue 22 = .ok (.iload_n 3, 1) := by decide +kernel
theorem dX11_takeClue_23 : decode cX11_takeClue 23 = .ok (.invokevirtual 229, 3) := by decide +kernel
theorem dX11_takeClue_26 : decode cX11_takeClue 26 = .ok (.ifCond .eq 24, 3) := by decide +kernel
theorem dX11_takeClue_29 : decode cX11_takeClue 29 = .ok (.aload_n 0, 1) := by decide +kernel
theorem dX11_takeClue_30 : decode cX11_takeClue 30 = .ok (.getfield 19, 3) := by decide +kernel
theorem dX11_takeClue_33 : decode cX11_takeClue 33 = .ok (.getfield 125, 3) := by decide +kernel
theorem dX11_takeClue_36 : decode cX11_takeClue 36 = .ok (.iload_n 2, 1) := by decide +kernel
theorem dX11_takeClue_37 : decode cX11_takeClue 37 = .ok (.iaload, 1) := by decide +kernel
theorem dX11_takeClue_38 : decode cX11_takeClue 38 = .ok (.aload_n 0, 1) := by decide +kernel
theorem dX11_takeClue_39 : decode cX11_takeClue 39 = .ok (.getfield 26, 3) := by decide +kernel
theorem dX11_takeClue_42 : decode cX11_takeClue 42 = .ok (.getfield 115, 3) := by decide +kernel
theorem dX11_takeClue_45 : decode cX11_takeClue 45 = .ok (.iload_n 1, 1) := by decide +kernel
theorem dX11_takeClue_46 : decode cX11_takeClue 46 = .ok (.iaload, 1) := by decide +kernel
theorem dX11_takeClue_47 : decode cX11_takeClue 47 = .ok (.if_icmp .eq 5, 3) := by decide +kernel
theorem dX11_takeClue_50 : decode cX11_takeClue 50 = .ok (.iconst 0, 1) := by decide +kernel
theorem dX11_takeClue_51 : decode cX11_takeClue 51 = .ok (.ireturn, 1) := by decide +kernel
theorem dX11_takeClue_52 : decode cX11_takeClue 52 = .ok (.aload_n 0, 1) := by decide +kernel
theorem dX11_takeClue_53 : decode cX11_takeClue 53 = .ok (.getfield 35, 3) := by decide +kernel
theorem dX11_takeClue_56 : decode cX11_takeClue 56 = .ok (.aload_n 0, 1) := by decide +kernel
theorem dX11_takeClue_57 : decode cX11_takeClue 57 = .ok (.getfield 26, 3) := by decide +kernel
theorem dX11_takeClue_60 : decode cX11_takeClue 60 = .ok (.iload 4, 2) := by decide +kernel
theorem dX11_takeClue_62 : decode cX11_takeClue 62 = .ok (.iload_n 3, 1) := by decide +kernel
theorem dX11_takeClue_63 : decode cX11_takeClue 63 = .ok (.invokevirtual 232, 3) := by decide +kernel
theorem dX11_takeClue_66 : decode cX11_takeClue 66 = .ok (.iconst 1, 1) := by decide +kernel
theorem dX11_takeClue_67 : decode cX11_takeClue 67 = .ok (.ireturn, 1) := by decide +kernel
set_option maxRecDepth 20000 in
theorem E_X11_takeClue {G : xG} {l : Launch} {d : Nat} {P : Int → xMem → Prop} {v1 v2 v3 : Int} {μ : xMem} (h : CI G l d mX0_tellingOf [xr G 19, xi v1, xi v3] μ (fun r1 m2 => ((r1 = (-1) → P 0 m2) ∧ (r1 ≠ (-1) → CI G l d mX3_isKnown [xr G 3, xi v2, xi v3] m2 (fun r5 m6 => ((r5 = 0 → P 0 m6) ∧ (r5 ≠ 0 → ((0 ≤ v2 ∧ v2 < 120) ∧ ((0 ≤ v1 ∧ v1 < 16) ∧ (iR (m6 14 v2) ∧ iR (m6 25 v1) ∧ ((m6 14 v2) = (m6 25 v1) → CV G l d mX8_takeClue [xr G 26, xr G 19, xi r1, xi v3] m6 (fun m16 => P 1 m16)) ∧ ((m6 14 v2) ≠ (m6 25 v1) → P 0 m6))))))))))) : CI G l (d + 1) mX11_takeClue [xr G 0, xi v1, xi v2, xi v3] μ P := by
  refine CC.ofRR (ll := [some (xr G 0), some (xi v1), some (xi v2), some (xi v3), none]) (by decide +kernel) (Nat.le_of_ble_eq_true rfl) rfl (fun h => by cases h) ?_
  refine xr_aload_n dX11_takeClue_0 rfl ?_
  refine xr_getR dX11_takeClue_1 fl_X11_26 L_0 rfl ?_
  refine xr_iload_n dX11_takeClue_4 rfl ?_
  refine xr_iload_n dX11_takeClue_5 rfl ?_
  refine xr_cvI (As := [xi v1, xi v3]) dX11_takeClue_6 mi_X0_tellingOf ml_X11_226 se_X0_tellingOf L_19 rfl rfl rfl (Nat.le_of_ble_eq_true rfl) h (fun r1 m2 hr1 h => ?_)
  refine xr_istore' (ll' := [some (xr G 0), some (xi v1), some (xi v2), some (xi v3), some (xi r1)]) dX11_takeClue_9 (by decide) rfl rfl ?_
  refine xr_iload dX11_takeClue_11 rfl ?_
  refine xr_iconst dX11_takeClue_13 ?_
  obtain ⟨hT3, hF4⟩ := h
  refine xr_icmp_eq (tgt := 50) dX11_takeClue_14 (by decide) hr1 (by decide) (fun c => ?_) (fun c => ?_)
  · have h := hT3 c
    refine xr_iconst dX11_takeClue_50 ?_
    exact xr_zret dX11_takeClue_51 rfl (x_nz (by decide)).1 ⟨rfl, _, rfl, x_01 (by decide), h⟩
  · have h := hF4 c
    refine xr_aload_n dX11_takeClue_17 rfl ?_
    refine xr_getR dX11_takeClue_18 fl_X11_19 L_0 rfl ?_
    refine xr_iload_n dX11_takeClue_21 rfl ?_
    refine xr_iload_n dX11_takeClue_22 rfl ?_
    refine xr_cvI (As := [xi v2, xi v3]) dX11_takeClue_23 mi_X3_isKnown ml_X11_229 se_X3_isKnown L_3 rfl rfl rfl (Nat.le_of_ble_eq_true rfl) h (fun r5 m6 hr5 h => ?_)
    obtain ⟨hT7, hF8⟩ := h
    refine xr_if_eq (tgt := 50) dX11_takeClue_26 (by decide) hr5  (fun c => ?_) (fun c => ?_)
    · have h := hT7 c
      refine xr_iconst dX11_takeClue_50 ?_
      exact xr_zret dX11_takeClue_51 rfl (x_nz (by decide)).1 ⟨rfl, _, rfl, x_01 (by decide), h⟩
    · have h := hF8 c
      refine xr_aload_n dX11_takeClue_29 rfl ?_
      refine xr_getR dX11_takeClue_30 fl_X11_19 L_0 rfl ?_
      refine xr_getR dX11_takeClue_33 fl_X11_125 L_3 rfl ?_
      refine xr_iload_n dX11_takeClue_36 rfl ?_
      obtain ⟨q9, h⟩ := h
      refine xr_iaload' (v := m6 14 v2) dX11_takeClue_37 L_14 rfl (by decide) q9 rfl ?_
      refine xr_aload_n dX11_takeClue_38 rfl ?_
      refine xr_getR dX11_takeClue_39 fl_X11_26 L_0 rfl ?_
      refine xr_getR dX11_takeClue_42 fl_X11_115 L_19 rfl ?_
      refine xr_iload_n dX11_takeClue_45 rfl ?_
      obtain ⟨q10, h⟩ := h
      refine xr_iaload' (v := m6 25 v1) dX11_takeClue_46 L_25 rfl (by decide) q10 rfl ?_
      obtain ⟨q11, q12, hT13, hF14⟩ := h
      refine xr_icmp_eq (tgt := 52) dX11_takeClue_47 (by decide) q11 q12 (fun c => ?_) (fun c => ?_)
      · have h := hT13 c
        refine xr_aload_n dX11_takeClue_52 rfl ?_
        refine xr_getR dX11_takeClue_53 fl_X11_35 L_0 rfl ?_
        refine xr_aload_n dX11_takeClue_56 rfl ?_
        refine xr_getR dX11_takeClue_57 fl_X11_26 L_0 rfl ?_
        refine xr_iload dX11_takeClue_60 rfl ?_
        refine xr_iload_n dX11_takeClue_62 rfl ?_
        refine xr_cvV (As := [xr G 19, xi r1, xi v3]) dX11_takeClue_63 mi_X8_takeClue ml_X11_232 se_X8_takeClue L_26 rfl rfl rfl (Nat.le_of_ble_eq_true rfl) h (fun m16 h => ?_)
        refine xr_iconst dX11_takeClue_66 ?_
        exact xr_zret dX11_takeClue_67 rfl (x_nz (by decide)).1 ⟨rfl, _, rfl, x_01 (by decide), h⟩
      · have h := hF14 c
        refine xr_iconst dX11_takeClue_50 ?_
        exact xr_zret dX11_takeClue_51 rfl (x_nz (by decide)).1 ⟨rfl, _, rfl, x_01 (by decide), h⟩
end Blk33_bX11
