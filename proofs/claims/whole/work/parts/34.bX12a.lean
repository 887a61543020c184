/-! blocks of the class's code, printed by program -/
section Blk34_bX12a
theorem dX12_thrown_0 : decode cX12_thrown 0 = .ok (.aload_n 0, 1) := by decide +kernel
theorem dX12_thrown_1 : decode cX12_thrown 1 = .ok (.getfield 185, 3) := by decide +kernel
theorem dX12_thrown_4 : decode cX12_thrown 4 = .ok (.ireturn, 1) := by decide +kernel
set_option maxRecDepth 20000 in
theorem E_X12_thrown {G : xG} {l : Launch} {d : Nat} {P : Int → xMem → Prop} {μ : xMem} (h : (iR (μ 74 0) ∧ P (μ 74 0) μ)) : CI G l (d + 1) mX12_thrown [xr G 74] μ P := by
  refine CC.ofRR (ll := [some (xr G 74)]) (by decide +kernel) (Nat.le_of_ble_eq_true rfl) rfl (fun h => by cases h) ?_
  refine xr_aload_n dX12_thrown_0 rfl ?_
  refine xr_getI' (v := μ 74 0) dX12_thrown_1 fl_X12_185 L_74 rfl rfl rfl ?_
  obtain ⟨q1, h⟩ := h
  exact xr_iret dX12_thrown_4 rfl ⟨rfl, _, rfl, q1, h⟩
theorem dX12_throwsIf_0 : decode cX12_throwsIf 0 = .ok (.aload_n 0, 1) := by decide +kernel
theorem dX12_throwsIf_1 : decode cX12_throwsIf 1 = .ok (.iload_n 1, 1) := by decide +kernel
theorem dX12_throwsIf_2 : decode cX12_throwsIf 2 = .ok (.ifCond .eq 7, 3) := by decide +kernel
theorem dX12_throwsIf_5 : decode cX12_throwsIf 5 = .ok (.iconst 1, 1) := by decide +kernel
theorem dX12_throwsIf_6 : decode cX12_throwsIf 6 = .ok (.goto 4, 3) := by decide +kernel
theorem dX12_throwsIf_9 : decode cX12_throwsIf 9 = .ok (.iconst 0, 1) := by decide +kernel
theorem dX12_throwsIf_10 : decode cX12_throwsIf 10 = .ok (.putfield 185, 3) := by decide +kernel
theorem dX12_throwsIf_13 : decode cX12_throwsIf 13 = .ok (.iload_n 1, 1) := by decide +kernel
theorem dX12_throwsIf_14 : decode cX12_throwsIf 14 = .ok (.ireturn, 1) := by decide +kernel
set_option maxRecDepth 20000 in
theorem E_X12_throwsIf {G : xG} {l : Launch} {d : Nat} {P : Int → xMem → Prop} {v1 : Int} {μ : xMem} (h : (iR v1 ∧ (v1 = 0 → ((v1 = 0 ∨ v1 = 1) ∧ P v1 (st2 μ 74 0 0))) ∧ (v1 ≠ 0 → ((v1 = 0 ∨ v1 = 1) ∧ P v1 (st2 μ 74 0 1))))) : CI G l (d + 1) mX12_throwsIf [xr G 74, xi v1] μ P := by
  refine CC.ofRR (ll := [some (xr G 74), some (xi v1)]) (by decide +kernel) (Nat.le_of_ble_eq_true rfl) rfl (fun h => by cases h) ?_
  refine xr_aload_n dX12_throwsIf_0 rfl ?_
  refine xr_iload_n dX12_throwsIf_1 rfl ?_
  obtain ⟨q1, hT2, hF3⟩ := h
  refine xr_if_eq (tgt := 9) dX12_throwsIf_2 (by decide) q1  (fun c => ?_) (fun c => ?_)
  · have h := hT2 c
    refine xr_iconst dX12_throwsIf_9 ?_
    refine xr_putI dX12_throwsIf_10 fp_X12_185 L_74 rfl rfl ⟨rfl, rfl⟩ ?_
    refine xr_iload_n dX12_throwsIf_13 rfl ?_
    obtain ⟨q4, h⟩ := h
    exact xr_zret dX12_throwsIf_14 rfl (x_nz q4).1 ⟨rfl, _, rfl, x_01 q4, h⟩
  · have h := hF3 c
    refine xr_iconst dX12_throwsIf_5 ?_
    refine xr_goto (tgt := 10) dX12_throwsIf_6 (by decide) ?_
    refine xr_putI dX12_throwsIf_10 fp_X12_185 L_74 rfl rfl ⟨rfl, rfl⟩ ?_
    refine xr_iload_n dX12_throwsIf_13 rfl ?_
    obtain ⟨q5, h⟩ := h
    exact xr_zret dX12_throwsIf_14 rfl (x_nz q5).1 ⟨rfl, _, rfl, x_01 q5, h⟩
theorem dX12_feed_0 : decode cX12_feed 0 = .ok (.aload_n 0, 1) := by decide +kernel
theorem dX12_feed_1 : decode cX12_feed 1 = .ok (.iconst 0, 1) := by decide +kernel
theorem dX12_feed_2 : decode cX12_feed 2 = .ok (.putfield 185, 3) := by decide +kernel
theorem dX12_feed_5 : decode cX12_feed 5 = .ok (.aload_n 0, 1) := by decide +kernel
theorem dX12_feed_6 : decode cX12_feed 6 = .ok (.getfield 188, 3) := by decide +kernel
theorem dX12_feed_9 : decode cX12_feed 9 = .ok (.bipush 20, 2) := by decide +kernel
theorem dX12_feed_11 : decode cX12_feed 11 = .ok (.iadd, 1) := by decide +kernel
theorem dX12_feed_12 : decode cX12_feed 12 = .ok (.sipush 180, 3) := by decide +kernel
theorem dX12_feed_15 : decode cX12_feed 15 = .ok (.if_icmp .le 5, 3) := by decide +kernel
theorem dX12_feed_18 : decode cX12_feed 18 = .ok (.iconst (-1), 1) := by decide +kernel
theorem dX12_feed_19 : decode cX12_feed 19 = .ok (.ireturn, 1) := by decide +kernel
theorem dX12_feed_20 : decode cX12_feed 20 = .ok (.aload_n 0, 1) := by decide +kernel
theorem dX12_feed_21 : decode cX12_feed 21 = .ok (.iload_n 1, 1) := by decide +kernel
theorem dX12_feed_22 : decode cX12_feed 22 = .ok (.invokevirtual 191, 3) := by decide +kernel
theorem dX12_feed_25 : decode cX12_feed 25 = .ok (.aload_n 0, 1) := by decide +kernel
theorem dX12_feed_26 : decode cX12_feed 26 = .ok (.iload_n 2, 1) := by decide +kernel
theorem dX12_feed_27 : decode cX12_feed 27 = .ok (.invokevirtual 191, 3) := by decide +kernel
theorem dX12_feed_30 : decode cX12_feed 30 = .ok (.aload_n 0, 1) := by decide +kernel
theorem dX12_feed_31 : decode cX12_feed 31 = .ok (.iload_n 3, 1) := by decide +kernel
theorem dX12_feed_32 : decode cX12_feed 32 = .ok (.invokevirtual 191, 3) := by decide +kernel
theorem dX12_feed_35 : decode cX12_feed 35 = .ok (.aload_n 0, 1) := by decide +kernel
theorem dX12_feed_36 : decode cX12_feed 36 = .ok (.iload 4, 2) := by decide +kernel
theorem dX12_feed_38 : decode cX12_feed 38 = .ok (.invokevirtual 191, 3) := by decide +kernel
theorem dX12_feed_41 : decode cX12_feed 41 = .ok (.aload_n 0, 1) := by decide +kernel
theorem dX12_feed_42 : decode cX12_feed 42 = .ok (.iload 5, 2) := by decide +kernel
theorem dX12_feed_44 : decode cX12_feed 44 = .ok (.invokevirtual 191, 3) := by decide +kernel
theorem dX12_feed_47 : decode cX12_feed 47 = .ok (.aload_n 0, 1) := by decide +kernel
theorem dX12_feed_48 : decode cX12_feed 48 = .ok (.getfield 188, 3) := by decide +kernel
theorem dX12_feed_51 : decode cX12_feed 51 = .ok (.ireturn, 1) := by decide +kernel
set_option maxRecDepth 20000 in
theorem E_X12_feed {G : xG} {l : Launch} {d : Nat} {P : Int → xMem → Prop} {v1 v2 v3 v4 v5 : Int} {μ : xMem} (h : (iR ((μ 74 2) + 20) ∧ (((μ 74 2) + 20) ≤ 180 → CV G l d mX12_four [xr G 74, xi v1] (st2 μ 74 0 0) (fun m5 => CV G l d mX12_four [xr G 74, xi v2] m5 (fun m7 => CV G l d mX12_four [xr G 74, xi v3] m7 (fun m9 => CV G l d mX12_four [xr G 74, xi v4] m9 (fun m11 => CV G l d mX12_four [xr G 74, xi v5] m11 (fun m13 => (iR (m13 74 2) ∧ P (m13 74 2) m13))))))) ∧ (180 < ((μ 74 2) + 20) → P (-1) (st2 μ 74 0 0)))) : CI G l (d + 1) mX12_feed [xr G 74, xi v1, xi v2, xi v3, xi v4, xi v5] μ P := by
  refine CC.ofRR (ll := [some (xr G 74), some (xi v1), some (xi v2), some (xi v3), some (xi v4), some (xi v5)]) (by decide +kernel) (Nat.le_of_ble_eq_true rfl) rfl (fun h => by cases h) ?_
  refine xr_aload_n dX12_feed_0 rfl ?_
  refine xr_iconst dX12_feed_1 ?_
  refine xr_putI dX12_feed_2 fp_X12_185 L_74 rfl rfl ⟨rfl, rfl⟩ ?_
  refine xr_aload_n dX12_feed_5 rfl ?_
  refine xr_getI' (v := μ 74 2) dX12_feed_6 fl_X12_188 L_74 rfl rfl (by simp [st2, cpy]) ?_
  refine xr_bipush dX12_feed_9 (by decide) ?_
  refine xr_iadd dX12_feed_11 ?_
  refine xr_sipush dX12_feed_12 (by decide) ?_
  obtain ⟨q1, hT2, hF3⟩ := h
  refine xr_icmp_le (tgt := 20) dX12_feed_15 (by decide) q1 (by decide) (fun c => ?_) (fun c => ?_)
  · have h := hT2 c
    refine xr_aload_n dX12_feed_20 rfl ?_
    refine xr_iload_n dX12_feed_21 rfl ?_
    refine xr_cvV (As := [xi v1]) dX12_feed_22 mi_X12_four ml_X12_191 se_X12_four L_74 rfl rfl rfl (Nat.le_of_ble_eq_true rfl) h (fun m5 h => ?_)
    refine xr_aload_n dX12_feed_25 rfl ?_
    refine xr_iload_n dX12_feed_26 rfl ?_
    refine xr_cvV (As := [xi v2]) dX12_feed_27 mi_X12_four ml_X12_191 se_X12_four L_74 rfl rfl rfl (Nat.le_of_ble_eq_true rfl) h (fun m7 h => ?_)
    refine xr_aload_n dX12_feed_30 rfl ?_
    refine xr_iload_n dX12_feed_31 rfl ?_
    refine xr_cvV (As := [xi v3]) dX12_feed_32 mi_X12_four ml_X12_191 se_X12_four L_74 rfl rfl rfl (Nat.le_of_ble_eq_true rfl) h (fun m9 h => ?_)
    refine xr_aload_n dX12_feed_35 rfl ?_
    refine xr_iload dX12_feed_36 rfl ?_
    refine xr_cvV (As := [xi v4]) dX12_feed_38 mi_X12_four ml_X12_191 se_X12_four L_74 rfl rfl rfl (Nat.le_of_ble_eq_true rfl) h (fun m11 h => ?_)
    refine xr_aload_n dX12_feed_41 rfl ?_
    refine xr_iload dX12_feed_42 rfl ?_
    refine xr_cvV (As := [xi v5]) dX12_feed_44 mi_X12_four ml_X12_191 se_X12_four L_74 rfl rfl rfl (Nat.le_of_ble_eq_true rfl) h (fun m13 h => ?_)
    refine xr_aload_n dX12_feed_47 rfl ?_
    refine xr_getI' (v := m13 74 2) dX12_feed_48 fl_X12_188 L_74 rfl rfl rfl ?_
    obtain ⟨q14, h⟩ := h
    exact xr_iret dX12_feed_51 rfl ⟨rfl, _, rfl, q14, h⟩
  · have h := hF3 (Int.not_le.mp c)
    refine xr_iconst dX12_feed_18 ?_
    exact xr_iret dX12_feed_19 rfl ⟨rfl, _, rfl, (by decide), h⟩
theorem dX12_four_0 : decode cX12_four 0 = .ok (.bipush 24, 2) := by decide +kernel
theorem dX12_four_2 : decode cX12_four 2 = .ok (.istore_n 2, 1) := by decide +kernel
theorem dX12_four_3 : decode cX12_four 3 = .ok (.iload_n 2, 1) := by decide +kernel
theorem dX12_four_4 : decode cX12_four 4 = .ok (.ifCond .lt 32, 3) := by decide +kernel
theorem dX12_four_7 : decode cX12_four 7 = .ok (.aload_n 0, 1) := by decide +kernel
theorem dX12_four_8 : decode cX12_four 8 = .ok (.getfield 7, 3) := by decide +kernel
theorem dX12_four_11 : decode cX12_four 11 = .ok (.aload_n 0, 1) := by decide +kernel
theorem dX12_four_12 : decode cX12_four 12 = .ok (.getfield 188, 3) := by decide +kernel
theorem dX12_four_15 : decode cX12_four 15 = .ok (.iload_n 1, 1) := by decide +kernel
theorem dX12_four_16 : decode cX12_four 16 = .ok (.iload_n 2, 1) := by decide +kernel
theorem dX12_four_17 : decode cX12_four 17 = .ok (.ishr, 1) := by decide +kernel
theorem dX12_four_18 : decode cX12_four 18 = .ok (.i2b, 1) := by decide +kernel
theorem dX12_four_19 : decode cX12_four 19 = .ok (.bastore, 1) := by decide +kernel
theorem dX12_four_20 : decode cX12_four 20 = .ok (.aload_n 0, 1) := by decide +kernel
theorem dX12_four_21 : decode cX12_four 21 = .ok (.dup, 1) := by decide +kernel
theorem dX12_four_22 : decode cX12_four 22 = .ok (.getfield 188, 3) := by decide +kernel
theorem dX12_four_25 : decode cX12_four 25 = .ok (.iconst 1, 1) := by decide +kernel
theorem dX12_four_26 : decode cX12_four 26 = .ok (.iadd, 1) := by decide +kernel
theorem dX12_four_27 : decode cX12_four 27 = .ok (.putfield 188, 3) := by decide +kernel
theorem dX12_four_30 : decode cX12_four 30 = .ok (.iinc 2 (-8), 3) := by decide +kernel
theorem dX12_four_33 : decode cX12_four 33 = .ok (.goto (-30), 3) := by decide +kernel
theorem dX12_four_36 : decode cX12_four 36 = .ok (.return_, 1) := by decide +kernel
def K_X12_four_3 (G : xG) (l : Launch) (d : Nat) (P : xMem → Prop) (v1 v2 : Int) (μ : xMem) : Prop := RR G l d 0 0 false mX12_four (qV P) 3 [some (xr G 74), some (xi v1), some (xi v2)] [] LAY μ 0 0
set_option maxRecDepth 20000 in
theorem E_X12_four {G : xG} {l : Launch} {d : Nat} {P : xMem → Prop} {v1 : Int} {μ : xMem} (h : K_X12_four_3 G l (d + 1) P v1 24 μ) : CV G l (d + 1) mX12_four [xr G 74, xi v1] μ P := by
  refine CC.ofRR (ll := [some (xr G 74), some (xi v1), none]) (by decide +kernel) (Nat.le_of_ble_eq_true rfl) rfl (fun h => by cases h) ?_
  refine xr_bipush dX12_four_0 (by decide) ?_
  refine xr_istore_n' (ll' := [some (xr G 74), some (xi v1), some (xi 24)]) dX12_four_2 (by decide) rfl rfl ?_
  exact h
set_option maxRecDepth 20000 in
theorem B_X12_four_3 {G : xG} {l : Launch} {d : Nat} {P : xMem → Prop} {v1 v2 : Int} {μ : xMem} (h : (iR v2 ∧ (v2 < 0 → P μ) ∧ (0 ≤ v2 → ((0 ≤ μ 74 2 ∧ μ 74 2 < 180) ∧ K_X12_four_3 G l (d + 1) P v1 (v2 + (-8)) (st2 (st2 μ 75 (μ 74 2) (j8 (j8 (jshr v1 v2)))) 74 2 ((μ 74 2) + 1)))))) : K_X12_four_3 G l (d + 1) P v1 v2 μ := by
  unfold K_X12_four_3
  refine xr_iload_n dX12_four_3 rfl ?_
  obtain ⟨q1, hT2, hF3⟩ := h
  refine xr_if_lt (tgt := 36) dX12_four_4 (by decide) q1  (fun c => ?_) (fun c => ?_)
  · have h := hT2 c
    exact xr_ret dX12_four_36 rfl ⟨rfl, rfl, h⟩
  · have h := hF3 (Int.not_lt.mp c)
    refine xr_aload_n dX12_four_7 rfl ?_
    refine xr_getR dX12_four_8 fl_X12_7 L_74 rfl ?_
    refine xr_aload_n dX12_four_11 rfl ?_
    refine xr_getI' (v := μ 74 2) dX12_four_12 fl_X12_188 L_74 rfl rfl rfl ?_
    refine xr_iload_n dX12_four_15 rfl ?_
    refine xr_iload_n dX12_four_16 rfl ?_
    refine xr_ishr dX12_four_17 ?_
    refine xr_i2b dX12_four_18 ?_
    obtain ⟨q4, h⟩ := h
    refine xr_bastore dX12_four_19 L_75 rfl (by decide) q4 ?_
    refine xr_aload_n dX12_four_20 rfl ?_
    refine xr_dup dX12_four_21 rfl ?_
    refine xr_getI' (v := μ 74 2) dX12_four_22 fl_X12_188 L_74 rfl rfl (by simp [st2, cpy]) ?_
    refine xr_iconst dX12_four_25 ?_
    refine xr_iadd dX12_four_26 ?_
    refine xr_putI dX12_four_27 fp_X12_188 L_74 rfl rfl ⟨rfl, rfl⟩ ?_
    refine xr_iinc' (ll' := [some (xr G 74), some (xi v1), some (xi (v2 + (-8)))]) dX12_four_30 rfl (by decide) rfl rfl ?_
    refine xr_goto (tgt := 3) dX12_four_33 (by decide) ?_
    exact h
theorem dX12_end_0 : decode cX12_end 0 = .ok (.aload_n 0, 1) := by decide +kernel
theorem dX12_end_1 : decode cX12_end 1 = .ok (.iconst 0, 1) := by decide +kernel
theorem dX12_end_2 : decode cX12_end 2 = .ok (.putfield 185, 3) := by decide +kernel
theorem dX12_end_5 : decode cX12_end 5 = .ok (.iload_n 1, 1) := by decide +kernel
theorem dX12_end_6 : decode cX12_end 6 = .ok (.ifCond .lt 11, 3) := by decide +kernel
theorem dX12_end_9 : decode cX12_end 9 = .ok (.iload_n 1, 1) := by decide +kernel
theorem dX12_end_10 : decode cX12_end 10 = .ok (.aload_n 0, 1) := by decide +kernel
theorem dX12_end_11 : decode cX12_end 11 = .ok (.getfield 188, 3) := by decide +kernel
theorem dX12_end_14 : decode cX12_end 14 = .ok (.if_icmp .le 5, 3) := by decide +kernel
theorem dX12_end_17 : decode cX12_end 17 = .ok (.iconst 0, 1) := by decide +kernel
theorem dX12_end_18 : decode cX12_end 18 = .ok (.ireturn, 1) := by decide +kernel
theorem dX12_end_19 : decode cX12_end 19 = .ok (.aload_n 0, 1) := by decide +kernel
theorem dX12_end_20 : decode cX12_end 20 = .ok (.iload_n 1, 1) := by decide +kernel
theorem dX12_end_21 : decode cX12_end 21 = .ok (.putfield 188, 3) := by decide +kernel
theorem dX12_end_24 : decode cX12_end 24 = .ok (.iconst 1, 1) := by decide +kernel
theorem dX12_end_25 : decode cX12_end 25 = .ok (.ireturn, 1) := by decide +kernel
set_option maxRecDepth 20000 in
theorem E_X12_end {G : xG} {l : Launch} {d : Nat} {P : Int → xMem → Prop} {v1 : Int} {μ : xMem} (h : (iR v1 ∧ (v1 < 0 → P 0 (st2 μ 74 0 0)) ∧ (0 ≤ v1 → (iR (μ 74 2) ∧ (v1 ≤ (μ 74 2) → P 1 (st2 (st2 μ 74 0 0) 74 2 v1)) ∧ ((μ 74 2) < v1 → P 0 (st2 μ 74 0 0)))))) : CI G l (d + 1) mX12_end [xr G 74, xi v1] μ P := by
  refine CC.ofRR (ll := [some (xr G 74), some (xi v1)]) (by decide +kernel) (Nat.le_of_ble_eq_true rfl) rfl (fun h => by cases h) ?_
  refine xr_aload_n dX12_end_0 rfl ?_
  refine xr_iconst dX12_end_1 ?_
  refine xr_putI dX12_end_2 fp_X12_185 L_74 rfl rfl ⟨rfl, rfl⟩ ?_
  refine xr_iload_n dX12_end_5 rfl ?_
  obtain ⟨q1, hT2, hF3⟩ := h
  refine xr_if_lt (tgt := 17) dX12_end_6 (by decide) q1  (fun c => ?_) (fun c => ?_)
  · have h := hT2 c
    refine xr_iconst dX12_end_17 ?_
    exact xr_zret dX12_end_18 rfl (x_nz (by decide)).1 ⟨rfl, _, rfl, x_01 (by decide), h⟩
  · have h := hF3 (Int.not_lt.mp c)
    refine xr_iload_n dX12_end_9 rfl ?_
    refine xr_aload_n dX12_end_10 rfl ?_
    refine xr_getI' (v := μ 74 2) dX12_end_11 fl_X12_188 L_74 rfl rfl (by simp [st2, cpy]) ?_
    obtain ⟨q4, hT5, hF6⟩ := h
    refine xr_icmp_le (tgt := 19) dX12_end_14 (by decide) q1 q4 (fun c => ?_) (fun c => ?_)
    · have h := hT5 c
      refine xr_aload_n dX12_end_19 rfl ?_
      refine xr_iload_n dX12_end_20 rfl ?_
      refine xr_putI dX12_end_21 fp_X12_188 L_74 rfl rfl ⟨rfl, rfl⟩ ?_
      refine xr_iconst dX12_end_24 ?_
      exact xr_zret dX12_end_25 rfl (x_nz (by decide)).1 ⟨rfl, _, rfl, x_01 (by decide), h⟩
    · have h := hF6 (Int.not_le.mp c)
      refine xr_iconst dX12_end_17 ?_
      exact xr_zret dX12_end_18 rfl (x_nz (by decide)).1 ⟨rfl, _, rfl, x_01 (by decide), h⟩
theorem dX12_taken_0 : decode cX12_taken 0 = .ok (.aload_n 0, 1) := by decide +kernel
theorem dX12_taken_1 : decode cX12_taken 1 = .ok (.aload_n 0, 1) := by decide +kernel
theorem dX12_taken_2 : decode cX12_taken 2 = .ok (.getfield 188, 3) := by decide +kernel
theorem dX12_taken_5 : decode cX12_taken 5 = .ok (.putfield 195, 3) := by decide +kernel
theorem dX12_taken_8 : decode cX12_taken 8 = .ok (.aload_n 0, 1) := by decide +kernel
theorem dX12_taken_9 : decode cX12_taken 9 = .ok (.iconst 0, 1) := by decide +kernel
theorem dX12_taken_10 : decode cX12_taken 10 = .ok (.putfield 188, 3) := by decide +kernel
theorem dX12_taken_13 : decode cX12_taken 13 = .ok (.return_, 1) := by decide +kernel
set_option maxRecDepth 20000 in
theorem E_X12_taken {G : xG} {l : Launch} {d : Nat} {P : xMem → Prop} {μ : xMem} (h : P (st2 (st2 μ 74 3 (μ 74 2)) 74 2 0)) : CV G l (d + 1) mX12_taken [xr G 74] μ P := by
  refine CC.ofRR (ll := [some (xr G 74)]) (by decide +kernel) (Nat.le_of_ble_eq_true rfl) rfl (fun h => by cases h) ?_
  refine xr_aload_n dX12_taken_0 rfl ?_
  refine xr_aload_n dX12_taken_1 rfl ?_
  refine xr_getI' (v := μ 74 2) dX12_taken_2 fl_X12_188 L_74 rfl rfl rfl ?_
  refine xr_putI dX12_taken_5 fp_X12_195 L_74 rfl rfl ⟨rfl, rfl⟩ ?_
  refine xr_aload_n dX12_taken_8 rfl ?_
  refine xr_iconst dX12_taken_9 ?_
  refine xr_putI dX12_taken_10 fp_X12_188 L_74 rfl rfl ⟨rfl, rfl⟩ ?_
  exact xr_ret dX12_taken_13 rfl ⟨rfl, rfl, h⟩
theorem dX12_isIn_0 : decode cX12_isIn 0 = .ok (.iload_n 0, 1) := by decide +kernel
theorem dX12_isIn_1 : decode cX12_isIn 1 = .ok (.iload_n 1, 1) := by decide +kernel
theorem dX12_isIn_2 : decode cX12_isIn 2 = .ok (.if_icmp .lt 12, 3) := by decide +kernel
theorem dX12_isIn_5 : decode cX12_isIn 5 = .ok (.iload_n 0, 1) := by decide +kernel
theorem dX12_isIn_6 : decode cX12_isIn 6 = .ok (.iload_n 2, 1) := by decide +kernel
theorem dX12_isIn_7 : decode cX12_isIn 7 = .ok (.if_icmp .gt 7, 3) := by decide +kernel
theorem dX12_isIn_10 : decode cX12_isIn 10 = .ok (.iconst 1, 1) := by decide +kernel
theorem dX12_isIn_11 : decode cX12_isIn 11 = .ok (.goto 4, 3) := by decide +kernel
theorem dX12_isIn_14 : decode cX12_isIn 14 = .ok (.iconst 0, 1) := by decide +kernel
theorem dX12_isIn_15 : decode cX12_isIn 15 = .ok (.ireturn, 1) := by decide +kernel
set_option maxRecDepth 20000 in
theorem E_X12_isIn {G : xG} {l : Launch} {d : Nat} {P : Int → xMem → Prop} {v0 v1 v2 : Int} {μ : xMem} (h : (iR v0 ∧ iR v1 ∧ (v0 < v1 → P 0 μ) ∧ (v1 ≤ v0 → (iR v2 ∧ (v2 < v0 → P 0 μ) ∧ (v0 ≤ v2 → P 1 μ))))) : CI G l (d + 1) mX12_isIn [xi v0, xi v1, xi v2] μ P := by
  refine CC.ofRR (ll := [some (xi v0), some (xi v1), some (xi v2)]) (by decide +kernel) (Nat.le_of_ble_eq_true rfl) rfl (fun h => by cases h) ?_
  refine xr_iload_n dX12_isIn_0 rfl ?_
  refine xr_iload_n dX12_isIn_1 rfl ?_
  obtain ⟨q1, q2, hT3, hF4⟩ := h
  refine xr_icmp_lt (tgt := 14) dX12_isIn_2 (by decide) q1 q2 (fun c => ?_) (fun c => ?_)
  · have h := hT3 c
    refine xr_iconst dX12_isIn_14 ?_
    exact xr_zret dX12_isIn_15 rfl (x_nz (by decide)).1 ⟨rfl, _, rfl, x_01 (by decide), h⟩
  · have h := hF4 (Int.not_lt.mp c)
    refine xr_iload_n dX12_isIn_5 rfl ?_
    refine xr_iload_n dX12_isIn_6 rfl ?_
    obtain ⟨q5, hT6, hF7⟩ := h
    refine xr_icmp_gt (tgt := 14) dX12_isIn_7 (by decide) q1 q5 (fun c => ?_) (fun c => ?_)
    · have h := hT6 c
      refine xr_iconst dX12_isIn_14 ?_
      exact xr_zret dX12_isIn_15 rfl (x_nz (by decide)).1 ⟨rfl, _, rfl, x_01 (by decide), h⟩
    · have h := hF7 (Int.not_lt.mp c)
      refine xr_iconst dX12_isIn_10 ?_
      refine xr_goto (tgt := 15) dX12_isIn_11 (by decide) ?_
      exact xr_zret dX12_isIn_15 rfl (x_nz (by decide)).1 ⟨rfl, _, rfl, x_01 (by decide), h⟩
theorem dX12_isSmall_0 : decode cX12_isSmall 0 = .ok (.iload_n 0, 1) := by decide +kernel
theorem dX12_isSmall_1 : decode cX12_isSmall 1 = .ok (.bipush 97, 2) := by decide +kernel
theorem dX12_isSmall_3 : decode cX12_isSmall 3 = .ok (.if_icmp .lt 13, 3) := by decide +kernel
theorem dX12_isSmall_6 : decode cX12_isSmall 6 = .ok (.iload_n 0, 1) := by decide +kernel
theorem dX12_isSmall_7 : decode cX12_isSmall 7 = .ok (.bipush 122, 2) := by decide +kernel
theorem dX12_isSmall_9 : decode cX12_isSmall 9 = .ok (.if_icmp .gt 7, 3) := by decide +kernel
theorem dX12_isSmall_12 : decode cX12_isSmall 12 = .ok (.iconst 1, 1) := by decide +kernel
theorem dX12_isSmall_13 : decode cX12_isSmall 13 = .ok (.goto 4, 3) := by decide +kernel
theorem dX12_isSmall_16 : decode cX12_isSmall 16 = .ok (.iconst 0, 1) := by decide +kernel
theorem dX12_isSmall_17 : decode cX12_isSmall 17 = .ok (.ireturn, 1) := by decide +kernel
set_option maxRecDepth 20000 in
theorem E_X12_isSmall {G : xG} {l : Launch} {d : Nat} {P : Int → xMem → Prop} {v0 : Int} {μ : xMem} (h : (iR v0 ∧ (v0 < 97 → P 0 μ) ∧ (97 ≤ v0 → ((122 < v0 → P 0 μ) ∧ (v0 ≤ 122 → P 1 μ))))) : CI G l (d + 1) mX12_isSmall [xi v0] μ P := by
  refine CC.ofRR (ll := [some (xi v0)]) (by decide +kernel) (Nat.le_of_ble_eq_true rfl) rfl (fun h => by cases h) ?_
  refine xr_iload_n dX12_isSmall_0 rfl ?_
  refine xr_bipush dX12_isSmall_1 (by decide) ?_
  obtain ⟨q1, hT2, hF3⟩ := h
  refine xr_icmp_lt (tgt := 16) dX12_isSmall_3 (by decide) q1 (by decide) (fun c => ?_) (fun c => ?_)
  · have h := hT2 c
    refine xr_iconst dX12_isSmall_16 ?_
    exact xr_zret dX12_isSmall_17 rfl (x_nz (by decide)).1 ⟨rfl, _, rfl, x_01 (by decide), h⟩
  · have h := hF3 (Int.not_lt.mp c)
    refine xr_iload_n dX12_isSmall_6 rfl ?_
    refine xr_bipush dX12_isSmall_7 (by decide) ?_
    obtain ⟨hT4, hF5⟩ := h
    refine xr_icmp_gt (tgt := 16) dX12_isSmall_9 (by decide) q1 (by decide) (fun c => ?_) (fun c => ?_)
    · have h := hT4 c
      refine xr_iconst dX12_isSmall_16 ?_
      exact xr_zret dX12_isSmall_17 rfl (x_nz (by decide)).1 ⟨rfl, _, rfl, x_01 (by decide), h⟩
    · have h := hF5 (Int.not_lt.mp c)
      refine xr_iconst dX12_isSmall_12 ?_
      refine xr_goto (tgt := 17) dX12_isSmall_13 (by decide) ?_
      exact xr_zret dX12_isSmall_17 rfl (x_nz (by decide)).1 ⟨rfl, _, rfl, x_01 (by decide), h⟩
theorem dX12_next_0 : decode cX12_next 0 = .ok (.aload_n 0, 1) := by decide +kernel
theorem dX12_next_1 : decode cX12_next 1 = .ok (.iconst 0, 1) := by decide +kernel
theorem dX12_next_2 : decode cX12_next 2 = .ok (.putfield 185, 3) := by decide +kernel
theorem dX12_next_5 : decode cX12_next 5 = .ok (.iload_n 1, 1) := by decide +kernel
theorem dX12_next_6 : decode cX12_next 6 = .ok (.iconst 0, 1) := by decide +kernel
theorem dX12_next_7 : decode cX12_next 7 = .ok (.sipush 999, 3) := by decide +kernel
theorem dX12_next_10 : decode cX12_next 10 = .ok (.invokestatic 198, 3) := by decide +kernel
theorem dX12_next_13 : decode cX12_next 13 = .ok (.ifCond .eq 15, 3) := by decide +kernel
theorem dX12_next_16 : decode cX12_next 16 = .ok (.aload_n 0, 1) := by decide +kernel
theorem dX12_next_17 : decode cX12_next 17 = .ok (.getfield 202, 3) := by decide +kernel
theorem dX12_next_20 : decode cX12_next 20 = .ok (.iload_n 1, 1) := by decide +kernel
theorem dX12_next_21 : decode cX12_next 21 = .ok (.iadd, 1) := by decide +kernel
theorem dX12_next_22 : decode cX12_next 22 = .ok (.sipush 999, 3) := by decide +kernel
theorem dX12_next_25 : decode cX12_next 25 = .ok (.if_icmp .le 5, 3) := by decide +kernel
theorem dX12_next_28 : decode cX12_next 28 = .ok (.iconst (-1), 1) := by decide +kernel
theorem dX12_next_29 : decode cX12_next 29 = .ok (.ireturn, 1) := by decide +kernel
theorem dX12_next_30 : decode cX12_next 30 = .ok (.aload_n 0, 1) := by decide +kernel
theorem dX12_next_31 : decode cX12_next 31 = .ok (.dup, 1) := by decide +kernel
theorem dX12_next_32 : decode cX12_next 32 = .ok (.getfield 202, 3) := by decide +kernel
theorem dX12_next_35 : decode cX12_next 35 = .ok (.iload_n 1, 1) := by decide +kernel
theorem dX12_next_36 : decode cX12_next 36 = .ok (.iadd, 1) := by decide +kernel
theorem dX12_next_37 : decode cX12_next 37 = .ok (.putfield 202, 3) := by decide +kernel
theorem dX12_next_40 : decode cX12_next 40 = .ok (.aload_n 0, 1) := by decide +kernel
theorem dX12_next_41 : decode cX12_next 41 = .ok (.getfield 202, 3) := by decide +kernel
theorem dX12_next_44 : decode cX12_next 44 = .ok (.ireturn, 1) := by decide +kernel
set_option maxRecDepth 20000 in
theorem E_X12_next {G : xG} {l : Launch} {d : Nat} {P : Int → xMem → Prop} {v1 : Int} {μ : xMem} (h : CI G l d mX12_isIn [xi v1, xi 0, xi 999] (st2 μ 74 0 0) (fun r1 m2 => ((r1 = 0 → P (-1) m2) ∧ (r1 ≠ 0 → (iR ((m2 74 4) + v1) ∧ (((m2 74 4) + v1) ≤ 999 → P ((m2 74 4) + v1) (st2 m2 74 4 ((m2 74 4) + v1))) ∧ (999 < ((m2 74 4) + v1) → P (-1) m2)))))) : CI G l (d + 1) mX12_next [xr G 74, xi v1] μ P := by
  refine CC.ofRR (ll := [some (xr G 74), some (xi v1)]) (by decide +kernel) (Nat.le_of_ble_eq_true rfl) rfl (fun h => by cases h) ?_
  refine xr_aload_n dX12_next_0 rfl ?_
  refine xr_iconst dX12_next_1 ?_
  refine xr_putI dX12_next_2 fp_X12_185 L_74 rfl rfl ⟨rfl, rfl⟩ ?_
  refine xr_iload_n dX12_next_5 rfl ?_
  refine xr_iconst dX12_next_6 ?_
  refine xr_sipush dX12_next_7 (by decide) ?_
  refine xr_csI (As := [xi v1, xi 0, xi 999]) dX12_next_10 ms_X12_isIn ml_X12_198 rfl rfl (Nat.le_of_ble_eq_true rfl) h (fun r1 m2 hr1 h => ?_)
  obtain ⟨hT3, hF4⟩ := h
  refine xr_if_eq (tgt := 28) dX12_next_13 (by decide) hr1  (fun c => ?_) (fun c => ?_)
  · have h := hT3 c
    refine xr_iconst dX12_next_28 ?_
    exact xr_iret dX12_next_29 rfl ⟨rfl, _, rfl, (by decide), h⟩
  · have h := hF4 c
    refine xr_aload_n dX12_next_16 rfl ?_
    refine xr_getI' (v := m2 74 4) dX12_next_17 fl_X12_202 L_74 rfl rfl rfl ?_
    refine xr_iload_n dX12_next_20 rfl ?_
    refine xr_iadd dX12_next_21 ?_
    refine xr_sipush dX12_next_22 (by decide) ?_
    obtain ⟨q5, hT6, hF7⟩ := h
    refine xr_icmp_le (tgt := 30) dX12_next_25 (by decide) q5 (by decide) (fun c => ?_) (fun c => ?_)
    · have h := hT6 c
      refine xr_aload_n dX12_next_30 rfl ?_
      refine xr_dup dX12_next_31 rfl ?_
      refine xr_getI' (v := m2 74 4) dX12_next_32 fl_X12_202 L_74 rfl rfl rfl ?_
      refine xr_iload_n dX12_next_35 rfl ?_
      refine xr_iadd dX12_next_36 ?_
      refine xr_putI dX12_next_37 fp_X12_202 L_74 rfl rfl ⟨rfl, rfl⟩ ?_
      refine xr_aload_n dX12_next_40 rfl ?_
      refine xr_getI' (v := (m2 74 4) + v1) dX12_next_41 fl_X12_202 L_74 rfl rfl (by simp [st2, cpy]) ?_
      exact xr_iret dX12_next_44 rfl ⟨rfl, _, rfl, q5, h⟩
    · have h := hF7 (Int.not_le.mp c)
      refine xr_iconst dX12_next_28 ?_
      exact xr_iret dX12_next_29 rfl ⟨rfl, _, rfl, (by decide), h⟩
theorem dX12_isTape_0 : decode cX12_isTape 0 = .ok (.aload_n 0, 1) := by decide +kernel
theorem dX12_isTape_1 : decode cX12_isTape 1 = .ok (.getfield 16, 3) := by decide +kernel
theorem dX12_isTape_4 : decode cX12_isTape 4 = .ok (.iload_n 1, 1) := by decide +kernel
theorem dX12_isTape_5 : decode cX12_isTape 5 = .ok (.iaload, 1) := by decide +kernel
theorem dX12_isTape_6 : decode cX12_isTape 6 = .ok (.aload_n 0, 1) := by decide +kernel
theorem dX12_isTape_7 : decode cX12_isTape 7 = .ok (.getfield 195, 3) := by decide +kernel
theorem dX12_isTape_10 : decode cX12_isTape 10 = .ok (.if_icmp .eq 5, 3) := by decide +kernel
theorem dX12_isTape_13 : decode cX12_isTape 13 = .ok (.iconst 0, 1) := by decide +kernel
theorem dX12_isTape_14 : decode cX12_isTape 14 = .ok (.ireturn, 1) := by decide +kernel
theorem dX12_isTape_15 : decode cX12_isTape 15 = .ok (.iconst 0, 1) := by decide +kernel
theorem dX12_isTape_16 : decode cX12_isTape 16 = .ok (.istore_n 2, 1) := by decide +kernel
theorem dX12_isTape_17 : decode cX12_isTape 17 = .ok (.iload_n 2, 1) := by decide +kernel
theorem dX12_isTape_18 : decode cX12_isTape 18 = .ok (.aload_n 0, 1) := by decide +kernel
theorem dX12_isTape_19 : decode cX12_isTape 19 = .ok (.getfield 195, 3) := by decide +kernel
theorem dX12_isTape_22 : decode cX12_isTape 22 = .ok (.if_icmp .ge 31, 3) := by decide +kernel
theorem dX12_isTape_25 : decode cX12_isTape 25 = .ok (.aload_n 0, 1) := by decide +kernel
theorem dX12_isTape_26 : decode cX12_isTape 26 = .ok (.getfield 13, 3) := by decide +kernel
theorem dX12_isTape_29 : decode cX12_isTape 29 = .ok (.bipush 10, 2) := by decide +kernel
theorem dX12_isTape_31 : decode cX12_isTape 31 = .ok (.iload_n 1, 1) := by decide +kernel
theorem dX12_isTape_32 : decode cX12_isTape 32 = .ok (.imul, 1) := by decide +kernel
theorem dX12_isTape_33 : decode cX12_isTape 33 = .ok (.iload_n 2, 1) := by decide +kernel
theorem dX12_isTape_34 : decode cX12_isTape 34 = .ok (.iadd, 1) := by decide +kernel
theorem dX12_isTape_35 : decode cX12_isTape 35 = .ok (.baload, 1) := by decide +kernel
theorem dX12_isTape_36 : decode cX12_isTape 36 = .ok (.aload_n 0, 1) := by decide +kernel
theorem dX12_isTape_37 : decode cX12_isTape 37 = .ok (.getfield 7, 3) := by decide +kernel
theorem dX12_isTape_40 : decode cX12_isTape 40 = .ok (.iload_n 2, 1) := by decide +kernel
theorem dX12_isTape_41 : decode cX12_isTape 41 = .ok (.baload, 1) := by decide +kernel
theorem dX12_isTape_42 : decode cX12_isTape 42 = .ok (.if_icmp .eq 5, 3) := by decide +kernel
theorem dX12_isTape_45 : decode cX12_isTape 45 = .ok (.iconst 0, 1) := by decide +kernel
theorem dX12_isTape_46 : decode cX12_isTape 46 = .ok (.ireturn, 1) := by decide +kernel
theorem dX12_isTape_47 : decode cX12_isTape 47 = .ok (.iinc 2 1, 3) := by decide +kernel
theorem dX12_isTape_50 : decode cX12_isTape 50 = .ok (.goto (-33), 3) := by decide +kernel
theorem dX12_isTape_53 : decode cX12_isTape 53 = .ok (.iconst 1, 1) := by decide +kernel
theorem dX12_isTape_54 : decode cX12_isTape 54 = .ok (.ireturn, 1) := by decide +kernel
def K_X12_isTape_17 (G : xG) (l : Launch) (d : Nat) (P : Int → xMem → Prop) (v1 v2 : Int) (μ : xMem) : Prop := RR G l d 0 0 false mX12_isTape (qI P) 17 [some (xr G 74), some (xi v1), some (xi v2)] [] LAY μ 0 0
set_option maxRecDepth 20000 in
theorem E_X12_isTape {G : xG} {l : Launch} {d : Nat} {P : Int → xMem → Prop} {v1 : Int} {μ : xMem} (h : ((0 ≤ v1 ∧ v1 < 120) ∧ (iR (μ 77 v1) ∧ iR (μ 74 3) ∧ ((μ 77 v1) = (μ 74 3) → K_X12_isTape_17 G l (d + 1) P v1 0 μ) ∧ ((μ 77 v1) ≠ (μ 74 3) → P 0 μ)))) : CI G l (d + 1) mX12_isTape [xr G 74, xi v1] μ P := by
  refine CC.ofRR (ll := [some (xr G 74), some (xi v1), none]) (by decide +kernel) (Nat.le_of_ble_eq_true rfl) rfl (fun h => by cases h) ?_
  refine xr_aload_n dX12_isTape_0 rfl ?_
  refine xr_getR dX12_isTape_1 fl_X12_16 L_74 rfl ?_
  refine xr_iload_n dX12_isTape_4 rfl ?_
  obtain ⟨q1, h⟩ := h
  refine xr_iaload' (v := μ 77 v1) dX12_isTape_5 L_77 rfl (by decide) q1 rfl ?_
  refine xr_aload_n dX12_isTape_6 rfl ?_
  refine xr_getI' (v := μ 74 3) dX12_isTape_7 fl_X12_195 L_74 rfl rfl rfl ?_
  obtain ⟨q2, q3, hT4, hF5⟩ := h
  refine xr_icmp_eq (tgt := 15) dX12_isTape_10 (by decide) q2 q3 (fun c => ?_) (fun c => ?_)
  · have h := hT4 c
    refine xr_iconst dX12_isTape_15 ?_
    refine xr_istore_n' (ll' := [some (xr G 74), some (xi v1), some (xi 0)]) dX12_isTape_16 (by decide) rfl rfl ?_
    exact h
  · have h := hF5 c
    refine xr_iconst dX12_isTape_13 ?_
    exact xr_zret dX12_isTape_14 rfl (x_nz (by decide)).1 ⟨rfl, _, rfl, x_01 (by decide), h⟩
set_option maxRecDepth 20000 in
theorem B_X12_isTape_17 {G : xG} {l : Launch} {d : Nat} {P : Int → xMem → Prop} {v1 v2 : Int} {μ : xMem} (h : (iR v2 ∧ iR (μ 74 3) ∧ ((μ 74 3) ≤ v2 → P 1 μ) ∧ (v2 < (μ 74 3) → ((0 ≤ (10 * v1) + v2 ∧ (10 * v1) + v2 < 1200) ∧ ((0 ≤ v2 ∧ v2 < 180) ∧ (iR (μ 76 ((10 * v1) + v2)) ∧ iR (μ 75 v2) ∧ ((μ 76 ((10 * v1) + v2)) = (μ 75 v2) → K_X12_isTape_17 G l (d + 1) P v1 (v2 + 1) μ) ∧ ((μ 76 ((10 * v1) + v2)) ≠ (μ 75 v2) → P 0 μ))))))) : K_X12_isTape_17 G l (d + 1) P v1 v2 μ := by
  unfold K_X12_isTape_17
  refine xr_iload_n dX12_isTape_17 rfl ?_
  refine xr_aload_n dX12_isTape_18 rfl ?_
  refine xr_getI' (v := μ 74 3) dX12_isTape_19 fl_X12_195 L_74 rfl rfl rfl ?_
  obtain ⟨q1, q2, hT3, hF4⟩ := h
  refine xr_icmp_ge (tgt := 53) dX12_isTape_22 (by decide) q1 q2 (fun c => ?_) (fun c => ?_)
  · have h := hT3 c
    refine xr_iconst dX12_isTape_53 ?_
    exact xr_zret dX12_isTape_54 rfl (x_nz (by decide)).1 ⟨rfl, _, rfl, x_01 (by decide), h⟩
  · have h := hF4 (Int.not_le.mp c)
    refine xr_aload_n dX12_isTape_25 rfl ?_
    refine xr_getR dX12_isTape_26 fl_X12_13 L_74 rfl ?_
    refine xr_bipush dX12_isTape_29 (by decide) ?_
    refine xr_iload_n dX12_isTape_31 rfl ?_
    refine xr_imul dX12_isTape_32 ?_
    refine xr_iload_n dX12_isTape_33 rfl ?_
    refine xr_iadd dX12_isTape_34 ?_
    obtain ⟨q5, h⟩ := h
    refine xr_baload' (v := μ 76 ((10 * v1) + v2)) dX12_isTape_35 L_76 rfl (by decide) q5 rfl ?_
    refine xr_aload_n dX12_isTape_36 rfl ?_
    refine xr_getR dX12_isTape_37 fl_X12_7 L_74 rfl ?_
    refine xr_iload_n dX12_isTape_40 rfl ?_
    obtain ⟨q6, h⟩ := h
    refine xr_baload' (v := μ 75 v2) dX12_isTape_41 L_75 rfl (by decide) q6 rfl ?_
    obtain ⟨q7, q8, hT9, hF10⟩ := h
    refine xr_icmp_eq (tgt := 47) dX12_isTape_42 (by decide) q7 q8 (fun c => ?_) (fun c => ?_)
    · have h := hT9 c
      refine xr_iinc' (ll' := [some (xr G 74), some (xi v1), some (xi (v2 + 1))]) dX12_isTape_47 rfl (by decide) rfl rfl ?_
      refine xr_goto (tgt := 17) dX12_isTape_50 (by decide) ?_
      exact h
    · have h := hF10 c
      refine xr_iconst dX12_isTape_45 ?_
      exact xr_zret dX12_isTape_46 rfl (x_nz (by decide)).1 ⟨rfl, _, rfl, x_01 (by decide), h⟩
theorem dX12_word_0 : decode cX12_word 0 = .ok (.aload_n 0, 1) := by decide +kernel
theorem dX12_word_1 : decode cX12_word 1 = .ok (.iconst 0, 1) := by decide +kernel
theorem dX12_word_2 : decode cX12_word 2 = .ok (.putfield 185, 3) := by decide +kernel
theorem dX12_word_5 : decode cX12_word 5 = .ok (.aload_n 0, 1) := by decide +kernel
theorem dX12_word_6 : decode cX12_word 6 = .ok (.invokevirtual 205, 3) := by decide +kernel
theorem dX12_word_9 : decode cX12_word 9 = .ok (.aload_n 0, 1) := by decide +kernel
theorem dX12_word_10 : decode cX12_word 10 = .ok (.getfield 208, 3) := by decide +kernel
theorem dX12_word_13 : decode cX12_word 13 = .ok (.bipush 120, 2) := by decide +kernel
theorem dX12_word_15 : decode cX12_word 15 = .ok (.if_icmp .eq 16, 3) := by decide +kernel
theorem dX12_word_18 : decode cX12_word 18 = .ok (.aload_n 0, 1) := by decide +kernel
theorem dX12_word_19 : decode cX12_word 19 = .ok (.getfield 195, 3) := by decide +kernel
theorem dX12_word_22 : decode cX12_word 22 = .ok (.iconst 1, 1) := by decide +kernel
theorem dX12_word_23 : decode cX12_word 23 = .ok (.bipush 10, 2) := by decide +kernel
theorem dX12_word_25 : decode cX12_word 25 = .ok (.invokestatic 198, 3) := by decide +kernel
theorem dX12_word_28 : decode cX12_word 28 = .ok (.ifCond .ne 5, 3) := by decide +kernel
theorem dX12_word_31 : decode cX12_word 31 = .ok (.iconst (-1), 1) := by decide +kernel
theorem dX12_word_32 : decode cX12_word 32 = .ok (.ireturn, 1) := by decide +kernel
theorem dX12_word_33 : decode cX12_word 33 = .ok (.iconst 0, 1) := by decide +kernel
theorem dX12_word_34 : decode cX12_word 34 = .ok (.istore_n 1, 1) := by decide +kernel
theorem dX12_word_35 : decode cX12_word 35 = .ok (.iload_n 1, 1) := by decide +kernel
theorem dX12_word_36 : decode cX12_word 36 = .ok (.aload_n 0, 1) := by decide +kernel
theorem dX12_word_37 : decode cX12_word 37 = .ok (.getfield 195, 3) := by decide +kernel
theorem dX12_word_40 : decode cX12_word 40 = .ok (.if_icmp .ge 23, 3) := by decide +kernel
theorem dX12_word_43 : decode cX12_word 43 = .ok (.aload_n 0, 1) := by decide +kernel
theorem dX12_word_44 : decode cX12_word 44 = .ok (.getfield 7, 3) := by decide +kernel
theorem dX12_word_47 : decode cX12_word 47 = .ok (.iload_n 1, 1) := by decide +kernel
theorem dX12_word_48 : decode cX12_word 48 = .ok (.baload, 1) := by decide +kernel
theorem dX12_word_49 : decode cX12_word 49 = .ok (.invokestatic 211, 3) := by decide +kernel
theorem dX12_word_52 : decode cX12_word 52 = .ok (.ifCond .ne 5, 3) := by decide +kernel
theorem dX12_word_55 : decode cX12_word 55 = .ok (.iconst (-1), 1) := by decide +kernel
theorem dX12_word_56 : decode cX12_word 56 = .ok (.ireturn, 1) := by decide +kernel
theorem dX12_word_57 : decode cX12_word 57 = .ok (.iinc 1 1, 3) := by decide +kernel
theorem dX12_word_60 : decode cX12_word 60 = .ok (.goto (-25), 3) := by decide +kernel
theorem dX12_word_63 : decode cX12_word 63 = .ok (.iconst 0, 1) := by decide +kernel
theorem dX12_word_64 : decode cX12_word 64 = .ok (.istore_n 1, 1) := by decide +kernel
theorem dX12_word_65 : decode cX12_word 65 = .ok (.iload_n 1, 1) := by decide +kernel
theorem dX12_word_66 : decode cX12_word 66 = .ok (.aload_n 0, 1) := by decide +kernel
theorem dX12_word_67 : decode cX12_word 67 = .ok (.getfield 208, 3) := by decide +kernel
theorem dX12_word_70 : decode cX12_word 70 = .ok (.if_icmp .ge 19, 3) := by decide +kernel
theorem dX12_word_73 : decode cX12_word 73 = .ok (.aload_n 0, 1) := by decide +kernel
theorem dX12_word_74 : decode cX12_word 74 = .ok (.iload_n 1, 1) := by decide +kernel
theorem dX12_word_75 : decode cX12_word 75 = .ok (.invokevirtual 215, 3) := by decide +kernel
theorem dX12_word_78 : decode cX12_word 78 = .ok (.ifCond .eq 5, 3) := by decide +kernel
theorem dX12_word_81 : decode cX12_word 81 = .ok (.iconst (-1), 1) := by decide +kernel
theorem dX12_word_82 : decode cX12_word 82 = .ok (.ireturn, 1) := by decide +kernel
theorem dX12_word_83 : decode cX12_word 83 = .ok (.iinc 1 1, 3) := by decide +kernel
theorem dX12_word_86 : decode cX12_word 86 = .ok (.goto (-21), 3) := by decide +kernel
theorem dX12_word_89 : decode cX12_word 89 = .ok (.iconst 0, 1) := by decide +kernel
theorem dX12_word_90 : decode cX12_word 90 = .ok (.istore_n 1, 1) := by decide +kernel
theorem dX12_word_91 : decode cX12_word 91 = .ok (.iload_n 1, 1) := by decide +kernel
theorem dX12_word_92 : decode cX12_word 92 = .ok (.aload_n 0, 1) := by decide +kernel
theorem dX12_word_93 : decode cX12_word 93 = .ok (.getfield 195, 3) := by decide +kernel
theorem dX12_word_96 : decode cX12_word 96 = .ok (.if_icmp .ge 29, 3) := by decide +kernel
theorem dX12_word_99 : decode cX12_word 99 = .ok (.aload_n 0, 1) := by decide +kernel
theorem dX12_word_100 : decode cX12_word 100 = .ok (.getfield 13, 3) := by decide +kernel
theorem dX12_word_103 : decode cX12_word 103 = .ok (.bipush 10, 2) := by decide +kernel
theorem dX12_word_105 : decode cX12_word 105 = .ok (.aload_n 0, 1) := by decide +kernel
theorem dX12_word_106 : decode cX12_word 106 = .ok (.getfield 208, 3) := by decide +kernel
theorem dX12_word_109 : decode cX12_word 109 = .ok (.imul, 1) := by decide +kernel
theorem dX12_word_110 : decode cX12_word 110 = .ok (.iload_n 1, 1) := by decide +kernel
theorem dX12_word_111 : decode cX12_word 111 = .ok (.iadd, 1) := by decide +kernel
theorem dX12_word_112 : decode cX12_word 112 = .ok (.aload_n 0, 1) := by decide +kernel
theorem dX12_word_113 : decode cX12_word 113 = .ok (.getfield 7, 3) := by decide +kernel
theorem dX12_word_116 : decode cX12_word 116 = .ok (.iload_n 1, 1) := by decide +kernel
theorem dX12_word_117 : decode cX12_word 117 = .ok (.baload, 1) := by decide +kernel
theorem dX12_word_118 : decode cX12_word 118 = .ok (.bastore, 1) := by decide +kernel
theorem dX12_word_119 : decode cX12_word 119 = .ok (.iinc 1 1, 3) := by decide +kernel
theorem dX12_word_122 : decode cX12_word 122 = .ok (.goto (-31), 3) := by decide +kernel
theorem dX12_word_125 : decode cX12_word 125 = .ok (.aload_n 0, 1) := by decide +kernel
theorem dX12_word_126 : decode cX12_word 126 = .ok (.getfield 16, 3) := by decide +kernel
theorem dX12_word_129 : decode cX12_word 129 = .ok (.aload_n 0, 1) := by decide +kernel
theorem dX12_word_130 : decode cX12_word 130 = .ok (.getfield 208, 3) := by decide +kernel
theorem dX12_word_133 : decode cX12_word 133 = .ok (.aload_n 0, 1) := by decide +kernel
theorem dX12_word_134 : decode cX12_word 134 = .ok (.getfield 195, 3) := by decide +kernel
theorem dX12_word_137 : decode cX12_word 137 = .ok (.iastore, 1) := by decide +kernel
theorem dX12_word_138 : decode cX12_word 138 = .ok (.aload_n 0, 1) := by decide +kernel
theorem dX12_word_139 : decode cX12_word 139 = .ok (.getfield 20, 3) := by decide +kernel
theorem dX12_word_142 : decode cX12_word 142 = .ok (.aload_n 0, 1) := by decide +kernel
theorem dX12_word_143 : decode cX12_word 143 = .ok (.getfield 208, 3) := by decide +kernel
theorem dX12_word_146 : decode cX12_word 146 = .ok (.aload_n 0, 1) := by decide +kernel
theorem dX12_word_147 : decode cX12_word 147 = .ok (.getfield 202, 3) := by decide +kernel
theorem dX12_word_150 : decode cX12_word 150 = .ok (.iastore, 1) := by decide +kernel
theorem dX12_word_151 : decode cX12_word 151 = .ok (.aload_n 0, 1) := by decide +kernel
theorem dX12_word_152 : decode cX12_word 152 = .ok (.dup, 1) := by decide +kernel
theorem dX12_word_153 : decode cX12_word 153 = .ok (.getfield 208, 3) := by decide +kernel
theorem dX12_word_156 : decode cX12_word 156 = .ok (.iconst 1, 1) := by decide +kernel
theorem dX12_word_157 : decode cX12_word 157 = .ok (.iadd, 1) := by decide +kernel
theorem dX12_word_158 : decode cX12_word 158 = .ok (.putfield 208, 3) := by decide +kernel
theorem dX12_word_161 : decode cX12_word 161 = .ok (.aload_n 0, 1) := by decide +kernel
theorem dX12_word_162 : decode cX12_word 162 = .ok (.dup, 1) := by decide +kernel
theorem dX12_word_163 : decode cX12_word 163 = .ok (.getfield 218, 3) := by decide +kernel
theorem dX12_word_166 : decode cX12_word 166 = .ok (.iconst 1, 1) := by decide +kernel
theorem dX12_word_167 : decode cX12_word 167 = .ok (.iadd, 1) := by decide +kernel
theorem dX12_word_168 : decode cX12_word 168 = .ok (.putfield 218, 3) := by decide +kernel
theorem dX12_word_171 : decode cX12_word 171 = .ok (.aload_n 0, 1) := by decide +kernel
theorem dX12_word_172 : decode cX12_word 172 = .ok (.getfield 208, 3) := by decide +kernel
theorem dX12_word_175 : decode cX12_word 175 = .ok (.iconst 1, 1) := by decide +kernel
theorem dX12_word_176 : decode cX12_word 176 = .ok (.isub, 1) := by decide +kernel
theorem dX12_word_177 : decode cX12_word 177 = .ok (.ireturn, 1) := by decide +kernel
def K_X12_word_35 (G : xG) (l : Launch) (d : Nat) (P : Int → xMem → Prop) (v1 : Int) (μ : xMem) : Prop := RR G l d 0 0 false mX12_word (qI P) 35 [some (xr G 74), some (xi v1)] [] LAY μ 0 0
def K_X12_word_65 (G : xG) (l : Launch) (d : Nat) (P : Int → xMem → Prop) (v1 : Int) (μ : xMem) : Prop := RR G l d 0 0 false mX12_word (qI P) 65 [some (xr G 74), some (xi v1)] [] LAY μ 0 0
def K_X12_word_91 (G : xG) (l : Launch) (d : Nat) (P : Int → xMem → Prop) (v1 : Int) (μ : xMem) : Prop := RR G l d 0 0 false mX12_word (qI P) 91 [some (xr G 74), some (xi v1)] [] LAY μ 0 0
set_option maxRecDepth 20000 in
theorem E_X12_word {G : xG} {l : Launch} {d : Nat} {P : Int → xMem → Prop} {μ : xMem} (h : CV G l d mX12_taken [xr G 74] (st2 μ 74 0 0) (fun m2 => (iR (m2 74 20) ∧ ((m2 74 20) = 120 → P (-1) m2) ∧ ((m2 74 20) ≠ 120 → CI G l d mX12_isIn [xi (m2 74 3), xi 1, xi 10] m2 (fun r6 m7 => ((r6 ≠ 0 → K_X12_word_35 G l (d + 1) P 0 m7) ∧ (r6 = 0 → P (-1) m7))))))) : CI G l (d + 1) mX12_word [xr G 74] μ P := by
  refine CC.ofRR (ll := [some (xr G 74), none]) (by decide +kernel) (Nat.le_of_ble_eq_true rfl) rfl (fun h => by cases h) ?_
  refine xr_aload_n dX12_word_0 rfl ?_
  refine xr_iconst dX12_word_1 ?_
  refine xr_putI dX12_word_2 fp_X12_185 L_74 rfl rfl ⟨rfl, rfl⟩ ?_
  refine xr_aload_n dX12_word_5 rfl ?_
  refine xr_cvV (As := []) dX12_word_6 mi_X12_taken ml_X12_205 se_X12_taken L_74 rfl rfl rfl (Nat.le_of_ble_eq_true rfl) h (fun m2 h => ?_)
  refine xr_aload_n dX12_word_9 rfl ?_
  refine xr_getI' (v := m2 74 20) dX12_word_10 fl_X12_208 L_74 rfl rfl rfl ?_
  refine xr_bipush dX12_word_13 (by decide) ?_
  obtain ⟨q3, hT4, hF5⟩ := h
  refine xr_icmp_eq (tgt := 31) dX12_word_15 (by decide) q3 (by decide) (fun c => ?_) (fun c => ?_)
  · have h := hT4 c
    refine xr_iconst dX12_word_31 ?_
    exact xr_iret dX12_word_32 rfl ⟨rfl, _, rfl, (by decide), h⟩
  · have h := hF5 c
    refine xr_aload_n dX12_word_18 rfl ?_
    refine xr_getI' (v := m2 74 3) dX12_word_19 fl_X12_195 L_74 rfl rfl rfl ?_
    refine xr_iconst dX12_word_22 ?_
    refine xr_bipush dX12_word_23 (by decide) ?_
    refine xr_csI (As := [xi (m2 74 3), xi 1, xi 10]) dX12_word_25 ms_X12_isIn ml_X12_198 rfl rfl (Nat.le_of_ble_eq_true rfl) h (fun r6 m7 hr6 h => ?_)
    obtain ⟨hT8, hF9⟩ := h
    refine xr_if_ne (tgt := 33) dX12_word_28 (by decide) hr6  (fun c => ?_) (fun c => ?_)
    · have h := hT8 c
      refine xr_iconst dX12_word_33 ?_
      refine xr_istore_n' (ll' := [some (xr G 74), some (xi 0)]) dX12_word_34 (by decide) rfl rfl ?_
      exact h
    · have h := hF9 c
      refine xr_iconst dX12_word_31 ?_
      exact xr_iret dX12_word_32 rfl ⟨rfl, _, rfl, (by decide), h⟩
set_option maxRecDepth 20000 in
theorem B_X12_word_35 {G : xG} {l : Launch} {d : Nat} {P : Int → xMem → Prop} {v1 : Int} {μ : xMem} (h : (iR v1 ∧ iR (μ 74 3) ∧ ((μ 74 3) ≤ v1 → K_X12_word_65 G l (d + 1) P 0 μ) ∧ (v1 < (μ 74 3) → ((0 ≤ v1 ∧ v1 < 180) ∧ CI G l d mX12_isSmall [xi (μ 75 v1)] μ (fun r6 m7 => ((r6 ≠ 0 → K_X12_word_35 G l (d + 1) P (v1 + 1) m7) ∧ (r6 = 0 → P (-1) m7))))))) : K_X12_word_35 G l (d + 1) P v1 μ := by
  unfold K_X12_word_35
  refine xr_iload_n dX12_word_35 rfl ?_
  refine xr_aload_n dX12_word_36 rfl ?_
  refine xr_getI' (v := μ 74 3) dX12_word_37 fl_X12_195 L_74 rfl rfl rfl ?_
  obtain ⟨q1, q2, hT3, hF4⟩ := h
  refine xr_icmp_ge (tgt := 63) dX12_word_40 (by decide) q1 q2 (fun c => ?_) (fun c => ?_)
  · have h := hT3 c
    refine xr_iconst dX12_word_63 ?_
    refine xr_istore_n' (ll' := [some (xr G 74), some (xi 0)]) dX12_word_64 (by decide) rfl rfl ?_
    exact h
  · have h := hF4 (Int.not_le.mp c)
    refine xr_aload_n dX12_word_43 rfl ?_
    refine xr_getR dX12_word_44 fl_X12_7 L_74 rfl ?_
    refine xr_iload_n dX12_word_47 rfl ?_
    obtain ⟨q5, h⟩ := h
    refine xr_baload' (v := μ 75 v1) dX12_word_48 L_75 rfl (by decide) q5 rfl ?_
    refine xr_csI (As := [xi (μ 75 v1)]) dX12_word_49 ms_X12_isSmall ml_X12_211 rfl rfl (Nat.le_of_ble_eq_true rfl) h (fun r6 m7 hr6 h => ?_)
    obtain ⟨hT8, hF9⟩ := h
    refine xr_if_ne (tgt := 57) dX12_word_52 (by decide) hr6  (fun c => ?_) (fun c => ?_)
    · have h := hT8 c
      refine xr_iinc' (ll' := [some (xr G 74), some (xi (v1 + 1))]) dX12_word_57 rfl (by decide) rfl rfl ?_
      refine xr_goto (tgt := 35) dX12_word_60 (by decide) ?_
      exact h
    · have h := hF9 c
      refine xr_iconst dX12_word_55 ?_
      exact xr_iret dX12_word_56 rfl ⟨rfl, _, rfl, (by decide), h⟩
set_option maxRecDepth 20000 in
theorem B_X12_word_65 {G : xG} {l : Launch} {d : Nat} {P : Int → xMem → Prop} {v1 : Int} {μ : xMem} (h : (iR v1 ∧ iR (μ 74 20) ∧ ((μ 74 20) ≤ v1 → K_X12_word_91 G l (d + 1) P 0 μ) ∧ (v1 < (μ 74 20) → CI G l d mX12_isTape [xr G 74, xi v1] μ (fun r5 m6 => ((r5 = 0 → K_X12_word_65 G l (d + 1) P (v1 + 1) m6) ∧ (r5 ≠ 0 → P (-1) m6)))))) : K_X12_word_65 G l (d + 1) P v1 μ := by
  unfold K_X12_word_65
  refine xr_iload_n dX12_word_65 rfl ?_
  refine xr_aload_n dX12_word_66 rfl ?_
  refine xr_getI' (v := μ 74 20) dX12_word_67 fl_X12_208 L_74 rfl rfl rfl ?_
  obtain ⟨q1, q2, hT3, hF4⟩ := h
  refine xr_icmp_ge (tgt := 89) dX12_word_70 (by decide) q1 q2 (fun c => ?_) (fun c => ?_)
  · have h := hT3 c
    refine xr_iconst dX12_word_89 ?_
    refine xr_istore_n' (ll' := [some (xr G 74), some (xi 0)]) dX12_word_90 (by decide) rfl rfl ?_
    exact h
  · have h := hF4 (Int.not_le.mp c)
    refine xr_aload_n dX12_word_73 rfl ?_
    refine xr_iload_n dX12_word_74 rfl ?_
    refine xr_cvI (As := [xi v1]) dX12_word_75 mi_X12_isTape ml_X12_215 se_X12_isTape L_74 rfl rfl rfl (Nat.le_of_ble_eq_true rfl) h (fun r5 m6 hr5 h => ?_)
    obtain ⟨hT7, hF8⟩ := h
    refine xr_if_eq (tgt := 83) dX12_word_78 (by decide) hr5  (fun c => ?_) (fun c => ?_)
    · have h := hT7 c
      refine xr_iinc' (ll' := [some (xr G 74), some (xi (v1 + 1))]) dX12_word_83 rfl (by decide) rfl rfl ?_
      refine xr_goto (tgt := 65) dX12_word_86 (by decide) ?_
      exact h
    · have h := hF8 c
      refine xr_iconst dX12_word_81 ?_
      exact xr_iret dX12_word_82 rfl ⟨rfl, _, rfl, (by decide), h⟩
set_option maxRecDepth 20000 in
theorem B_X12_word_91 {G : xG} {l : Launch} {d : Nat} {P : Int → xMem → Prop} {v1 : Int} {μ : xMem} (h : (iR v1 ∧ iR (μ 74 3) ∧ ((μ 74 3) ≤ v1 → ((0 ≤ μ 74 20 ∧ μ 74 20 < 120) ∧ (iR (((μ 74 20) + 1) - 1) ∧ P (((μ 74 20) + 1) - 1) (st2 (st2 (st2 (st2 μ 77 (μ 74 20) (μ 74 3)) 78 (μ 74 20) (μ 74 4)) 74 20 ((μ 74 20) + 1)) 74 5 ((μ 74 5) + 1))))) ∧ (v1 < (μ 74 3) → ((0 ≤ v1 ∧ v1 < 180) ∧ ((0 ≤ (10 * (μ 74 20)) + v1 ∧ (10 * (μ 74 20)) + v1 < 1200) ∧ K_X12_word_91 G l (d + 1) P (v1 + 1) (st2 μ 76 ((10 * (μ 74 20)) + v1) (j8 (μ 75 v1)))))))) : K_X12_word_91 G l (d + 1) P v1 μ := by
  unfold K_X12_word_91
  refine xr_iload_n dX12_word_91 rfl ?_
  refine xr_aload_n dX12_word_92 rfl ?_
  refine xr_getI' (v := μ 74 3) dX12_word_93 fl_X12_195 L_74 rfl rfl rfl ?_
  obtain ⟨q1, q2, hT3, hF4⟩ := h
  refine xr_icmp_ge (tgt := 125) dX12_word_96 (by decide) q1 q2 (fun c => ?_) (fun c => ?_)
  · have h := hT3 c
    refine xr_aload_n dX12_word_125 rfl ?_
    refine xr_getR dX12_word_126 fl_X12_16 L_74 rfl ?_
    refine xr_aload_n dX12_word_129 rfl ?_
    refine xr_getI' (v := μ 74 20) dX12_word_130 fl_X12_208 L_74 rfl rfl rfl ?_
    refine xr_aload_n dX12_word_133 rfl ?_
    refine xr_getI' (v := μ 74 3) dX12_word_134 fl_X12_195 L_74 rfl rfl rfl ?_
    obtain ⟨q5, h⟩ := h
    refine xr_iastore dX12_word_137 L_77 rfl (by decide) q5 ?_
    refine xr_aload_n dX12_word_138 rfl ?_
    refine xr_getR dX12_word_139 fl_X12_20 L_74 rfl ?_
    refine xr_aload_n dX12_word_142 rfl ?_
    refine xr_getI' (v := μ 74 20) dX12_word_143 fl_X12_208 L_74 rfl rfl (by simp [st2, cpy]) ?_
    refine xr_aload_n dX12_word_146 rfl ?_
    refine xr_getI' (v := μ 74 4) dX12_word_147 fl_X12_202 L_74 rfl rfl (by simp [st2, cpy]) ?_
    refine xr_iastore dX12_word_150 L_78 rfl (by decide) q5 ?_
    refine xr_aload_n dX12_word_151 rfl ?_
    refine xr_dup dX12_word_152 rfl ?_
    refine xr_getI' (v := μ 74 20) dX12_word_153 fl_X12_208 L_74 rfl rfl (by simp [st2, cpy]) ?_
    refine xr_iconst dX12_word_156 ?_
    refine xr_iadd dX12_word_157 ?_
    refine xr_putI dX12_word_158 fp_X12_208 L_74 rfl rfl ⟨rfl, rfl⟩ ?_
    refine xr_aload_n dX12_word_161 rfl ?_
    refine xr_dup dX12_word_162 rfl ?_
    refine xr_getI' (v := μ 74 5) dX12_word_163 fl_X12_218 L_74 rfl rfl (by simp [st2, cpy]) ?_
    refine xr_iconst dX12_word_166 ?_
    refine xr_iadd dX12_word_167 ?_
    refine xr_putI dX12_word_168 fp_X12_218 L_74 rfl rfl ⟨rfl, rfl⟩ ?_
    refine xr_aload_n dX12_word_171 rfl ?_
    refine xr_getI' (v := (μ 74 20) + 1) dX12_word_172 fl_X12_208 L_74 rfl rfl (by simp [st2, cpy]) ?_
    refine xr_iconst dX12_word_175 ?_
    refine xr_isub dX12_word_176 ?_
    obtain ⟨q6, h⟩ := h
    exact xr_iret dX12_word_177 rfl ⟨rfl, _, rfl, q6, h⟩
  · have h := hF4 (Int.not_le.mp c)
    refine xr_aload_n dX12_word_99 rfl ?_
    refine xr_getR dX12_word_100 fl_X12_13 L_74 rfl ?_
    refine xr_bipush dX12_word_103 (by decide) ?_
    refine xr_aload_n dX12_word_105 rfl ?_
    refine xr_getI' (v := μ 74 20) dX12_word_106 fl_X12_208 L_74 rfl rfl rfl ?_
    refine xr_imul dX12_word_109 ?_
    refine xr_iload_n dX12_word_110 rfl ?_
    refine xr_iadd dX12_word_111 ?_
    refine xr_aload_n dX12_word_112 rfl ?_
    refine xr_getR dX12_word_113 fl_X12_7 L_74 rfl ?_
    refine xr_iload_n dX12_word_116 rfl ?_
    obtain ⟨q7, h⟩ := h
    refine xr_baload' (v := μ 75 v1) dX12_word_117 L_75 rfl (by decide) q7 rfl ?_
    obtain ⟨q8, h⟩ := h
    refine xr_bastore dX12_word_118 L_76 rfl (by decide) q8 ?_
    refine xr_iinc' (ll' := [some (xr G 74), some (xi (v1 + 1))]) dX12_word_119 rfl (by decide) rfl rfl ?_
    refine xr_goto (tgt := 91) dX12_word_122 (by decide) ?_
    exact h
theorem dX12_isWord_0 : decode cX12_isWord 0 = .ok (.iload_n 1, 1) := by decide +kernel
theorem dX12_isWord_1 : decode cX12_isWord 1 = .ok (.iconst 0, 1) := by decide +kernel
theorem dX12_isWord_2 : decode cX12_isWord 2 = .ok (.aload_n 0, 1) := by decide +kernel
theorem dX12_isWord_3 : decode cX12_isWord 3 = .ok (.getfield 208, 3) := by decide +kernel
theorem dX12_isWord_6 : decode cX12_isWord 6 = .ok (.iconst 1, 1) := by decide +kernel
theorem dX12_isWord_7 : decode cX12_isWord 7 = .ok (.isub, 1) := by decide +kernel
theorem dX12_isWord_8 : decode cX12_isWord 8 = .ok (.invokestatic 198, 3) := by decide +kernel
theorem dX12_isWord_11 : decode cX12_isWord 11 = .ok (.ireturn, 1) := by decide +kernel
set_option maxRecDepth 20000 in
theorem E_X12_isWord {G : xG} {l : Launch} {d : Nat} {P : Int → xMem → Prop} {v1 : Int} {μ : xMem} (h : CI G l d mX12_isIn [xi v1, xi 0, xi ((μ 74 20) - 1)] μ (fun r1 m2 => ((r1 = 0 ∨ r1 = 1) ∧ P r1 m2))) : CI G l (d + 1) mX12_isWord [xr G 74, xi v1] μ P := by
  refine CC.ofRR (ll := [some (xr G 74), some (xi v1)]) (by decide +kernel) (Nat.le_of_ble_eq_true rfl) rfl (fun h => by cases h) ?_
  refine xr_iload_n dX12_isWord_0 rfl ?_
  refine xr_iconst dX12_isWord_1 ?_
  refine xr_aload_n dX12_isWord_2 rfl ?_
  refine xr_getI' (v := μ 74 20) dX12_isWord_3 fl_X12_208 L_74 rfl rfl rfl ?_
  refine xr_iconst dX12_isWord_6 ?_
  refine xr_isub dX12_isWord_7 ?_
  refine xr_csI (As := [xi v1, xi 0, xi ((μ 74 20) - 1)]) dX12_isWord_8 ms_X12_isIn ml_X12_198 rfl rfl (Nat.le_of_ble_eq_true rfl) h (fun r1 m2 hr1 h => ?_)
  obtain ⟨q3, h⟩ := h
  exact xr_zret dX12_isWord_11 rfl (x_nz q3).1 ⟨rfl, _, rfl, x_01 q3, h⟩
theorem dX12_means_0 : decode cX12_means 0 = .ok (.aload_n 0, 1) := by decide +kernel
theorem dX12_means_1 : decode cX12_means 1 = .ok (.iconst 0, 1) := by decide +kernel
theorem dX12_means_2 : decode cX12_means 2 = .ok (.putfield 185, 3) := by decide +kernel
theorem dX12_means_5 : decode cX12_means 5 = .ok (.aload_n 0, 1) := by decide +kernel
theorem dX12_means_6 : decode cX12_means 6 = .ok (.iload_n 1, 1) := by decide +kernel
theorem dX12_means_7 : decode cX12_means 7 = .ok (.invokevirtual 221, 3) := by decide +kernel
theorem dX12_means_10 : decode cX12_means 10 = .ok (.ifCond .eq 26, 3) := by decide +kernel
theorem dX12_means_13 : decode cX12_means 13 = .ok (.aload_n 0, 1) := by decide +kernel
theorem dX12_means_14 : decode cX12_means 14 = .ok (.iload_n 2, 1) := by decide +kernel
theorem dX12_means_15 : decode cX12_means 15 = .ok (.invokevirtual 221, 3) := by decide +kernel
theorem dX12_means_18 : decode cX12_means 18 = .ok (.ifCond .eq 18, 3) := by decide +kernel
theorem dX12_means_21 : decode cX12_means 21 = .ok (.iload_n 1, 1) := by decide +kernel
theorem dX12_means_22 : decode cX12_means 22 = .ok (.iload_n 2, 1) := by decide +kernel
theorem dX12_means_23 : decode cX12_means 23 = .ok (.if_icmp .eq 13, 3) := by decide +kernel
theorem dX12_means_26 : decode cX12_means 26 = .ok (.aload_n 0, 1) := by decide +kernel
theorem dX12_means_27 : decode cX12_means 27 = .ok (.getfield 224, 3) := by decide +kernel
theorem dX12_means_30 : decode cX12_means 30 = .ok (.sipush 240, 3) := by decide +kernel
theorem dX12_means_33 : decode cX12_means 33 = .ok (.if_icmp .ne 5, 3) := by decide +kernel
theorem dX12_means_36 : decode cX12_means 36 = .ok (.iconst 0, 1) := by decide +kernel
theorem dX12_means_37 : decode cX12_means 37 = .ok (.ireturn, 1) := by decide +kernel
theorem dX12_means_38 : decode cX12_means 38 = .ok (.iconst 0, 1) := by decide +kernel
theorem dX12_means_39 : decode cX12_means 39 = .ok (.istore_n 3, 1) := by decide +kernel
theorem dX12_means_40 : decode cX12_means 40 = .ok (.iload_n 3, 1) := by decide +kernel
theorem dX12_means_41 : decode cX12_means 41 = .ok (.aload_n 0, 1) := by decide +kernel
theorem dX12_means_42 : decode cX12_means 42 = .ok (.getfield 224, 3) := by decide +kernel
theorem dX12_means_45 : decode cX12_means 45 = .ok (.if_icmp .ge 31, 3) := by decide +kernel
theorem dX12_means_48 : decode cX12_means 48 = .ok (.aload_n 0, 1) := by decide +kernel
theorem dX12_means_49 : decode cX12_means 49 = .ok (.getfield 23, 3) := by decide +kernel
theorem dX12_means_52 : decode cX12_means 52 = .ok (.iload_n 3, 1) := by decide +kernel
theorem dX12_means_53 : decode cX12_means 53 = .ok (.iaload, 1) := by decide +kernel
theorem dX12_means_54 : decode cX12_means 54 = .ok (.iload_n 1, 1) := by decide +kernel
theorem dX12_means_55 : decode cX12_means 55 = .ok (.if_icmp .ne 15, 3) := by decide +kernel
theorem dX12_means_58 : decode cX12_means 58 = .ok (.aload_n 0, 1) := by decide +kernel
theorem dX12_means_59 : decode cX12_means 59 = .ok (.getfield 26, 3) := by decide +kernel
theorem dX12_means_62 : decode cX12_means 62 = .ok (.iload_n 3, 1) := by decide +kernel
theorem dX12_means_63 : decode cX12_means 63 = .ok (.iaload, 1) := by decide +kernel
theorem dX12_means_64 : decode cX12_means 64 = .ok (.iload_n 2, 1) := by decide +kernel
theorem dX12_means_65 : decode cX12_means 65 = .ok (.if_icmp .ne 5, 3) := by decide +kernel
theorem dX12_means_68 : decode cX12_means 68 = .ok (.iconst 0, 1) := by decide +kernel
theorem dX12_means_69 : decode cX12_means 69 = .ok (.ireturn, 1) := by decide +kernel
theorem dX12_means_70 : decode cX12_means 70 = .ok (.iinc 3 1, 3) := by decide +kernel
theorem dX12_means_73 : decode cX12_means 73 = .ok (.goto (-33), 3) := by decide +kernel
theorem dX12_means_76 : decode cX12_means 76 = .ok (.aload_n 0, 1) := by decide +kernel
theorem dX12_means_77 : decode cX12_means 77 = .ok (.getfield 23, 3) := by decide +kernel
theorem dX12_means_80 : decode cX12_means 80 = .ok (.aload_n 0, 1) := by decide +kernel
theorem dX12_means_81 : decode cX12_means 81 = .ok (.getfield 224, 3) := by decide +kernel
theorem dX12_means_84 : decode cX12_means 84 = .ok (.iload_n 1, 1) := by decide +kernel
theorem dX12_means_85 : decode cX12_means 85 = .ok (.iastore, 1) := by decide +kernel
theorem dX12_means_86 : decode cX12_means 86 = .ok (.aload_n 0, 1) := by decide +kernel
theorem dX12_means_87 : decode cX12_means 87 = .ok (.getfield 26, 3) := by decide +kernel
theorem dX12_means_90 : decode cX12_means 90 = .ok (.aload_n 0, 1) := by decide +kernel
theorem dX12_means_91 : decode cX12_means 91 = .ok (.getfield 224, 3) := by decide +kernel
theorem dX12_means_94 : decode cX12_means 94 = .ok (.iload_n 2, 1) := by decide +kernel
theorem dX12_means_95 : decode cX12_means 95 = .ok (.iastore, 1) := by decide +kernel
theorem dX12_means_96 : decode cX12_means 96 = .ok (.aload_n 0, 1) := by decide +kernel
theorem dX12_means_97 : decode cX12_means 97 = .ok (.getfield 29, 3) := by decide +kernel
theorem dX12_means_100 : decode cX12_means 100 = .ok (.aload_n 0, 1) := by decide +kernel
theorem dX12_means_101 : decode cX12_means 101 = .ok (.getfield 224, 3) := by decide +kernel
theorem dX12_means_104 : decode cX12_means 104 = .ok (.aload_n 0, 1) := by decide +kernel
theorem dX12_means_105 : decode cX12_means 105 = .ok (.getfield 202, 3) := by decide +kernel
theorem dX12_means_108 : decode cX12_means 108 = .ok (.iastore, 1) := by decide +kernel
theorem dX12_means_109 : decode cX12_means 109 = .ok (.aload_n 0, 1) := by decide +kernel
theorem dX12_means_110 : decode cX12_means 110 = .ok (.dup, 1) := by decide +kernel
theorem dX12_means_111 : decode cX12_means 111 = .ok (.getfield 224, 3) := by decide +kernel
theorem dX12_means_114 : decode cX12_means 114 = .ok (.iconst 1, 1) := by decide +kernel
theorem dX12_means_115 : decode cX12_means 115 = .ok (.iadd, 1) := by decide +kernel
theorem dX12_means_116 : decode cX12_means 116 = .ok (.putfield 224, 3) := by decide +kernel
theorem dX12_means_119 : decode cX12_means 119 = .ok (.aload_n 0, 1) := by decide +kernel
theorem dX12_means_120 : decode cX12_means 120 = .ok (.dup, 1) := by decide +kernel
theorem dX12_means_121 : decode cX12_means 121 = .ok (.getfield 218, 3) := by decide +kernel
theorem dX12_means_124 : decode cX12_means 124 = .ok (.iconst 1, 1) := by decide +kernel
theorem dX12_means_125 : decode cX12_means 125 = .ok (.iadd, 1) := by decide +kernel
theorem dX12_means_126 : decode cX12_means 126 = .ok (.putfield 218, 3) := by decide +kernel
theorem dX12_means_129 : decode cX12_means 129 = .ok (.iconst 1, 1) := by decide +kernel
theorem dX12_means_130 : decode cX12_means 130 = .ok (.ireturn, 1) := by decide +kernel
def K_X12_means_40 (G : xG) (l : Launch) (d : Nat) (P : Int → xMem → Prop) (v1 v2 v3 : Int) (μ : xMem) : Prop := RR G l d 0 0 false mX12_means (qI P) 40 [some (xr G 74), some (xi v1), some (xi v2), some (xi v3)] [] LAY μ 0 0
set_option maxRecDepth 20000 in
theorem E_X12_means {G : xG} {l : Launch} {d : Nat} {P : Int → xMem → Prop} {v1 v2 : Int} {μ : xMem} (h : CI G l d mX12_isWord [xr G 74, xi v1] (st2 μ 74 0 0) (fun r1 m2 => ((r1 = 0 → P 0 m2) ∧ (r1 ≠ 0 → CI G l d mX12_isWord [xr G 74, xi v2] m2 (fun r5 m6 => ((r5 = 0 → P 0 m6) ∧ (r5 ≠ 0 → (iR v1 ∧ iR v2 ∧ (v1 = v2 → P 0 m6) ∧ (v1 ≠ v2 → (iR (m6 74 21) ∧ ((m6 74 21) ≠ 240 → K_X12_means_40 G l (d + 1) P v1 v2 0 m6) ∧ ((m6 74 21) = 240 → P 0 m6))))))))))) : CI G l (d + 1) mX12_means [xr G 74, xi v1, xi v2] μ P := by
  refine CC.ofRR (ll := [some (xr G 74), some (xi v1), some (xi v2), none]) (by decide +kernel) (Nat.le_of_ble_eq_true rfl) rfl (fun h => by cases h) ?_
  refine xr_aload_n dX12_means_0 rfl ?_
  refine xr_iconst dX12_means_1 ?_
  refine xr_putI dX12_means_2 fp_X12_185 L_74 rfl rfl ⟨rfl, rfl⟩ ?_
  refine xr_aload_n dX12_means_5 rfl ?_
  refine xr_iload_n dX12_means_6 rfl ?_
  refine xr_cvI (As := [xi v1]) dX12_means_7 mi_X12_isWord ml_X12_221 se_X12_isWord L_74 rfl rfl rfl (Nat.le_of_ble_eq_true rfl) h (fun r1 m2 hr1 h => ?_)
  obtain ⟨hT3, hF4⟩ := h
  refine xr_if_eq (tgt := 36) dX12_means_10 (by decide) hr1  (fun c => ?_) (fun c => ?_)
  · have h := hT3 c
    refine xr_iconst dX12_means_36 ?_
    exact xr_zret dX12_means_37 rfl (x_nz (by decide)).1 ⟨rfl, _, rfl, x_01 (by decide), h⟩
  · have h := hF4 c
    refine xr_aload_n dX12_means_13 rfl ?_
    refine xr_iload_n dX12_means_14 rfl ?_
    refine xr_cvI (As := [xi v2]) dX12_means_15 mi_X12_isWord ml_X12_221 se_X12_isWord L_74 rfl rfl rfl (Nat.le_of_ble_eq_true rfl) h (fun r5 m6 hr5 h => ?_)
    obtain ⟨hT7, hF8⟩ := h
    refine xr_if_eq (tgt := 36) dX12_means_18 (by decide) hr5  (fun c => ?_) (fun c => ?_)
    · have h := hT7 c
      refine xr_iconst dX12_means_36 ?_
      exact xr_zret dX12_means_37 rfl (x_nz (by decide)).1 ⟨rfl, _, rfl, x_01 (by decide), h⟩
    · have h := hF8 c
      refine xr_iload_n dX12_means_21 rfl ?_
      refine xr_iload_n dX12_means_22 rfl ?_
      obtain ⟨q9, q10, hT11, hF12⟩ := h
      refine xr_icmp_eq (tgt := 36) dX12_means_23 (by decide) q9 q10 (fun c => ?_) (fun c => ?_)
      · have h := hT11 c
        refine xr_iconst dX12_means_36 ?_
        exact xr_zret dX12_means_37 rfl (x_nz (by decide)).1 ⟨rfl, _, rfl, x_01 (by decide), h⟩
      · have h := hF12 c
        refine xr_aload_n dX12_means_26 rfl ?_
        refine xr_getI' (v := m6 74 21) dX12_means_27 fl_X12_224 L_74 rfl rfl rfl ?_
        refine xr_sipush dX12_means_30 (by decide) ?_
        obtain ⟨q13, hT14, hF15⟩ := h
        refine xr_icmp_ne (tgt := 38) dX12_means_33 (by decide) q13 (by decide) (fun c => ?_) (fun c => ?_)
        · have h := hT14 c
          refine xr_iconst dX12_means_38 ?_
          refine xr_istore_n' (ll' := [some (xr G 74), some (xi v1), some (xi v2), some (xi 0)]) dX12_means_39 (by decide) rfl rfl ?_
          exact h
        · have h := hF15 c
          refine xr_iconst dX12_means_36 ?_
          exact xr_zret dX12_means_37 rfl (x_nz (by decide)).1 ⟨rfl, _, rfl, x_01 (by decide), h⟩
set_option maxRecDepth 20000 in
theorem B_X12_means_40 {G : xG} {l : Launch} {d : Nat} {P : Int → xMem → Prop} {v1 v2 v3 : Int} {μ : xMem} (h : (iR v3 ∧ iR (μ 74 21) ∧ ((μ 74 21) ≤ v3 → ((0 ≤ μ 74 21 ∧ μ 74 21 < 240) ∧ P 1 (st2 (st2 (st2 (st2 (st2 μ 79 (μ 74 21) v1) 80 (μ 74 21) v2) 81 (μ 74 21) (μ 74 4)) 74 21 ((μ 74 21) + 1)) 74 5 ((μ 74 5) + 1)))) ∧ (v3 < (μ 74 21) → ((0 ≤ v3 ∧ v3 < 240) ∧ (iR (μ 79 v3) ∧ iR v1 ∧ ((μ 79 v3) ≠ v1 → K_X12_means_40 G l (d + 1) P v1 v2 (v3 + 1) μ) ∧ ((μ 79 v3) = v1 → (iR (μ 80 v3) ∧ iR v2 ∧ ((μ 80 v3) ≠ v2 → K_X12_means_40 G l (d + 1) P v1 v2 (v3 + 1) μ) ∧ ((μ 80 v3) = v2 → P 0 μ)))))))) : K_X12_means_40 G l (d + 1) P v1 v2 v3 μ := by
  unfold K_X12_means_40
  refine xr_iload_n dX12_means_40 rfl ?_
  refine xr_aload_n dX12_means_41 rfl ?_
  refine xr_getI' (v := μ 74 21) dX12_means_42 fl_X12_224 L_74 rfl rfl rfl ?_
  obtain ⟨q1, q2, hT3, hF4⟩ := h
  refine xr_icmp_ge (tgt := 76) dX12_means_45 (by decide) q1 q2 (fun c => ?_) (fun c => ?_)
  · have h := hT3 c
    refine xr_aload_n dX12_means_76 rfl ?_
    refine xr_getR dX12_means_77 fl_X12_23 L_74 rfl ?_
    refine xr_aload_n dX12_means_80 rfl ?_
    refine xr_getI' (v := μ 74 21) dX12_means_81 fl_X12_224 L_74 rfl rfl rfl ?_
    refine xr_iload_n dX12_means_84 rfl ?_
    obtain ⟨q5, h⟩ := h
    refine xr_iastore dX12_means_85 L_79 rfl (by decide) q5 ?_
    refine xr_aload_n dX12_means_86 rfl ?_
    refine xr_getR dX12_means_87 fl_X12_26 L_74 rfl ?_
    refine xr_aload_n dX12_means_90 rfl ?_
    refine xr_getI' (v := μ 74 21) dX12_means_91 fl_X12_224 L_74 rfl rfl (by simp [st2, cpy]) ?_
    refine xr_iload_n dX12_means_94 rfl ?_
    refine xr_iastore dX12_means_95 L_80 rfl (by decide) q5 ?_
    refine xr_aload_n dX12_means_96 rfl ?_
    refine xr_getR dX12_means_97 fl_X12_29 L_74 rfl ?_
    refine xr_aload_n dX12_means_100 rfl ?_
    refine xr_getI' (v := μ 74 21) dX12_means_101 fl_X12_224 L_74 rfl rfl (by simp [st2, cpy]) ?_
    refine xr_aload_n dX12_means_104 rfl ?_
    refine xr_getI' (v := μ 74 4) dX12_means_105 fl_X12_202 L_74 rfl rfl (by simp [st2, cpy]) ?_
    refine xr_iastore dX12_means_108 L_81 rfl (by decide) q5 ?_
    refine xr_aload_n dX12_means_109 rfl ?_
    refine xr_dup dX12_means_110 rfl ?_
    refine xr_getI' (v := μ 74 21) dX12_means_111 fl_X12_224 L_74 rfl rfl (by simp [st2, cpy]) ?_
    refine xr_iconst dX12_means_114 ?_
    refine xr_iadd dX12_means_115 ?_
    refine xr_putI dX12_means_116 fp_X12_224 L_74 rfl rfl ⟨rfl, rfl⟩ ?_
    refine xr_aload_n dX12_means_119 rfl ?_
    refine xr_dup dX12_means_120 rfl ?_
    refine xr_getI' (v := μ 74 5) dX12_means_121 fl_X12_218 L_74 rfl rfl (by simp [st2, cpy]) ?_
    refine xr_iconst dX12_means_124 ?_
    refine xr_iadd dX12_means_125 ?_
    refine xr_putI dX12_means_126 fp_X12_218 L_74 rfl rfl ⟨rfl, rfl⟩ ?_
    refine xr_iconst dX12_means_129 ?_
    exact xr_zret dX12_means_130 rfl (x_nz (by decide)).1 ⟨rfl, _, rfl, x_01 (by decide), h⟩
  · have h := hF4 (Int.not_le.mp c)
    refine xr_aload_n dX12_means_48 rfl ?_
    refine xr_getR dX12_means_49 fl_X12_23 L_74 rfl ?_
    refine xr_iload_n dX12_means_52 rfl ?_
    obtain ⟨q6, h⟩ := h
    refine xr_iaload' (v := μ 79 v3) dX12_means_53 L_79 rfl (by decide) q6 rfl ?_
    refine xr_iload_n dX12_means_54 rfl ?_
    obtain ⟨q7, q8, hT9, hF10⟩ := h
    refine xr_icmp_ne (tgt := 70) dX12_means_55 (by decide) q7 q8 (fun c => ?_) (fun c => ?_)
    · have h := hT9 c
      refine xr_iinc' (ll' := [some (xr G 74), some (xi v1), some (xi v2), some (xi (v3 + 1))]) dX12_means_70 rfl (by decide) rfl rfl ?_
      refine xr_goto (tgt := 40) dX12_means_73 (by decide) ?_
      exact h
    · have h := hF10 c
      refine xr_aload_n dX12_means_58 rfl ?_
      refine xr_getR dX12_means_59 fl_X12_26 L_74 rfl ?_
      refine xr_iload_n dX12_means_62 rfl ?_
      refine xr_iaload' (v := μ 80 v3) dX12_means_63 L_80 rfl (by decide) q6 rfl ?_
      refine xr_iload_n dX12_means_64 rfl ?_
      obtain ⟨q11, q12, hT13, hF14⟩ := h
      refine xr_icmp_ne (tgt := 70) dX12_means_65 (by decide) q11 q12 (fun c => ?_) (fun c => ?_)
      · have h := hT13 c
        refine xr_iinc' (ll' := [some (xr G 74), some (xi v1), some (xi v2), some (xi (v3 + 1))]) dX12_means_70 rfl (by decide) rfl rfl ?_
        refine xr_goto (tgt := 40) dX12_means_73 (by decide) ?_
        exact h
      · have h := hF14 c
        refine xr_iconst dX12_means_68 ?_
        exact xr_zret dX12_means_69 rfl (x_nz (by decide)).1 ⟨rfl, _, rfl, x_01 (by decide), h⟩
theorem dX12_sign_0 : decode cX12_sign 0 = .ok (.aload_n 0, 1) := by decide +kernel
theorem dX12_sign_1 : decode cX12_sign 1 = .ok (.iconst 0, 1) := by decide +kernel
theorem dX12_sign_2 : decode cX12_sign 2 = .ok (.putfield 185, 3) := by decide +kernel
theorem dX12_sign_5 : decode cX12_sign 5 = .ok (.aload_n 0, 1) := by decide +kernel
theorem dX12_sign_6 : decode cX12_sign 6 = .ok (.iload_n 1, 1) := by decide +kernel
theorem dX12_sign_7 : decode cX12_sign 7 = .ok (.invokevirtual 221, 3) := by decide +kernel
theorem dX12_sign_10 : decode cX12_sign 10 = .ok (.ifCond .eq 22, 3) := by decide +kernel
theorem dX12_sign_13 : decode cX12_sign 13 = .ok (.iload_n 2, 1) := by decide +kernel
theorem dX12_sign_14 : decode cX12_sign 14 = .ok (.iconst 0, 1) := by decide +kernel
theorem dX12_sign_15 : decode cX12_sign 15 = .ok (.bipush 9, 2) := by decide +kernel
theorem dX12_sign_17 : decode cX12_sign 17 = .ok (.invokestatic 198, 3) := by decide +kernel
theorem dX12_sign_20 : decode cX12_sign 20 = .ok (.ifCond .eq 12, 3) := by decide +kernel
theorem dX12_sign_23 : decode cX12_sign 23 = .ok (.aload_n 0, 1) := by decide +kernel
theorem dX12_sign_24 : decode cX12_sign 24 = .ok (.getfield 227, 3) := by decide +kernel
theorem dX12_sign_27 : decode cX12_sign 27 = .ok (.bipush 120, 2) := by decide +kernel
theorem dX12_sign_29 : decode cX12_sign 29 = .ok (.if_icmp .ne 5, 3) := by decide +kernel
theorem dX12_sign_32 : decode cX12_sign 32 = .ok (.iconst 0, 1) := by decide +kernel
theorem dX12_sign_33 : decode cX12_sign 33 = .ok (.ireturn, 1) := by decide +kernel
theorem dX12_sign_34 : decode cX12_sign 34 = .ok (.iconst 0, 1) := by decide +kernel
theorem dX12_sign_35 : decode cX12_sign 35 = .ok (.istore_n 3, 1) := by decide +kernel
theorem dX12_sign_36 : decode cX12_sign 36 = .ok (.iload_n 3, 1) := by decide +kernel
theorem dX12_sign_37 : decode cX12_sign 37 = .ok (.aload_n 0, 1) := by decide +kernel
theorem dX12_sign_38 : decode cX12_sign 38 = .ok (.getfield 227, 3) := by decide +kernel
theorem dX12_sign_41 : decode cX12_sign 41 = .ok (.if_icmp .ge 31, 3) := by decide +kernel
theorem dX12_sign_44 : decode cX12_sign 44 = .ok (.aload_n 0, 1) := by decide +kernel
theorem dX12_sign_45 : decode cX12_sign 45 = .ok (.getfield 32, 3) := by decide +kernel
theorem dX12_sign_48 : decode cX12_sign 48 = .ok (.iload_n 3, 1) := by decide +kernel
theorem dX12_sign_49 : decode cX12_sign 49 = .ok (.iaload, 1) := by decide +kernel
theorem dX12_sign_50 : decode cX12_sign 50 = .ok (.iload_n 1, 1) := by decide +kernel
theorem dX12_sign_51 : decode cX12_sign 51 = .ok (.if_icmp .ne 15, 3) := by decide +kernel
theorem dX12_sign_54 : decode cX12_sign 54 = .ok (.aload_n 0, 1) := by decide +kernel
theorem dX12_sign_55 : decode cX12_sign 55 = .ok (.getfield 35, 3) := by decide +kernel
theorem dX12_sign_58 : decode cX12_sign 58 = .ok (.iload_n 3, 1) := by decide +kernel
theorem dX12_sign_59 : decode cX12_sign 59 = .ok (.iaload, 1) := by decide +kernel
theorem dX12_sign_60 : decode cX12_sign 60 = .ok (.iload_n 2, 1) := by decide +kernel
theorem dX12_sign_61 : decode cX12_sign 61 = .ok (.if_icmp .ne 5, 3) := by decide +kernel
theorem dX12_sign_64 : decode cX12_sign 64 = .ok (.iconst 0, 1) := by decide +kernel
theorem dX12_sign_65 : decode cX12_sign 65 = .ok (.ireturn, 1) := by decide +kernel
theorem dX12_sign_66 : decode cX12_sign 66 = .ok (.iinc 3 1, 3) := by decide +kernel
theorem dX12_sign_69 : decode cX12_sign 69 = .ok (.goto (-33), 3) := by decide +kernel
theorem dX12_sign_72 : decode cX12_sign 72 = .ok (.aload_n 0, 1) := by decide +kernel
theorem dX12_sign_73 : decode cX12_sign 73 = .ok (.getfield 32, 3) := by decide +kernel
theorem dX12_sign_76 : decode cX12_sign 76 = .ok (.aload_n 0, 1) := by decide +kernel
theorem dX12_sign_77 : decode cX12_sign 77 = .ok (.getfield 227, 3) := by decide +kernel
theorem dX12_sign_80 : decode cX12_sign 80 = .ok (.iload_n 1, 1) := by decide +kernel
theorem dX12_sign_81 : decode cX12_sign 81 = .ok (.iastore, 1) := by decide +kernel
theorem dX12_sign_82 : decode cX12_sign 82 = .ok (.aload_n 0, 1) := by decide +kernel
theorem dX12_sign_83 : decode cX12_sign 83 = .ok (.getfield 35, 3) := by decide +kernel
theorem dX12_sign_86 : decode cX12_sign 86 = .ok (.aload_n 0, 1) := by decide +kernel
theorem dX12_sign_87 : decode cX12_sign 87 = .ok (.getfield 227, 3) := by decide +kernel
theorem dX12_sign_90 : decode cX12_sign 90 = .ok (.iload_n 2, 1) := by decide +kernel
theorem dX12_sign_91 : decode cX12_sign 91 = .ok (.iastore, 1) := by decide +kernel
theorem dX12_sign_92 : decode cX12_sign 92 = .ok (.aload_n 0, 1) := by decide +kernel
theorem dX12_sign_93 : decode cX12_sign 93 = .ok (.getfield 38, 3) := by decide +kernel
theorem dX12_sign_96 : decode cX12_sign 96 = .ok (.aload_n 0, 1) := by decide +kernel
theorem dX12_sign_97 : decode cX12_sign 97 = .ok (.getfield 227, 3) := by decide +kernel
theorem dX12_sign_100 : decode cX12_sign 100 = .ok (.aload_n 0, 1) := by decide +kernel
theorem dX12_sign_101 : decode cX12_sign 101 = .ok (.getfield 202, 3) := by decide +kernel
theorem dX12_sign_104 : decode cX12_sign 104 = .ok (.iastore, 1) := by decide +kernel
theorem dX12_sign_105 : decode cX12_sign 105 = .ok (.aload_n 0, 1) := by decide +kernel
theorem dX12_sign_106 : decode cX12_sign 106 = .ok (.dup, 1) := by decide +kernel
theorem dX12_sign_107 : decode cX12_sign 107 = .ok (.getfield 227, 3) := by decide +kernel
theorem dX12_sign_110 : decode cX12_sign 110 = .ok (.iconst 1, 1) := by decide +kernel
theorem dX12_sign_111 : decode cX12_sign 111 = .ok (.iadd, 1) := by decide +kernel
theorem dX12_sign_112 : decode cX12_sign 112 = .ok (.putfield 227, 3) := by decide +kernel
theorem dX12_sign_115 : decode cX12_sign 115 = .ok (.aload_n 0, 1) := by decide +kernel
theorem dX12_sign_116 : decode cX12_sign 116 = .ok (.dup, 1) := by decide +kernel
theorem dX12_sign_117 : decode cX12_sign 117 = .ok (.getfield 218, 3) := by decide +kernel
theorem dX12_sign_120 : decode cX12_sign 120 = .ok (.iconst 1, 1) := by decide +kernel
theorem dX12_sign_121 : decode cX12_sign 121 = .ok (.iadd, 1) := by decide +kernel
theorem dX12_sign_122 : decode cX12_sign 122 = .ok (.putfield 218, 3) := by decide +kernel
theorem dX12_sign_125 : decode cX12_sign 125 = .ok (.iconst 1, 1) := by decide +kernel
theorem dX12_sign_126 : decode cX12_sign 126 = .ok (.ireturn, 1) := by decide +kernel
def K_X12_sign_36 (G : xG) (l : Launch) (d : Nat) (P : Int → xMem → Prop) (v1 v2 v3 : Int) (μ : xMem) : Prop := RR G l d 0 0 false mX12_sign (qI P) 36 [some (xr G 74), some (xi v1), some (xi v2), some (xi v3)] [] LAY μ 0 0
set_option maxRecDepth 20000 in
theorem E_X12_sign {G : xG} {l : Launch} {d : Nat} {P : Int → xMem → Prop} {v1 v2 : Int} {μ : xMem} (h : CI G l d mX12_isWord [xr G 74, xi v1] (st2 μ 74 0 0) (fun r1 m2 => ((r1 = 0 → P 0 m2) ∧ (r1 ≠ 0 → CI G l d mX12_isIn [xi v2, xi 0, xi 9] m2 (fun r5 m6 => ((r5 = 0 → P 0 m6) ∧ (r5 ≠ 0 → (iR (m6 74 22) ∧ ((m6 74 22) ≠ 120 → K_X12_sign_36 G l (d + 1) P v1 v2 0 m6) ∧ ((m6 74 22) = 120 → P 0 m6))))))))) : CI G l (d + 1) mX12_sign [xr G 74, xi v1, xi v2] μ P := by
  refine CC.ofRR (ll := [some (xr G 74), some (xi v1), some (xi v2), none]) (by decide +kernel) (Nat.le_of_ble_eq_true rfl) rfl (fun h => by cases h) ?_
  refine xr_aload_n dX12_sign_0 rfl ?_
  refine xr_iconst dX12_sign_1 ?_
  refine xr_putI dX12_sign_2 fp_X12_185 L_74 rfl rfl ⟨rfl, rfl⟩ ?_
  refine xr_aload_n dX12_sign_5 rfl ?_
  refine xr_iload_n dX12_sign_6 rfl ?_
  refine xr_cvI (As := [xi v1]) dX12_sign_7 mi_X12_isWord ml_X12_221 se_X12_isWord L_74 rfl rfl rfl (Nat.le_of_ble_eq_true rfl) h (fun r1 m2 hr1 h => ?_)
  obtain ⟨hT3, hF4⟩ := h
  refine xr_if_eq (tgt := 32) dX12_sign_10 (by decide) hr1  (fun c => ?_) (fun c => ?_)
  · have h := hT3 c
    refine xr_iconst dX12_sign_32 ?_
    exact xr_zret dX12_sign_33 rfl (x_nz (by decide)).1 ⟨rfl, _, rfl, x_01 (by decide), h⟩
  · have h := hF4 c
    refine xr_iload_n dX12_sign_13 rfl ?_
    refine xr_iconst dX12_sign_14 ?_
    refine xr_bipush dX12_sign_15 (by decide) ?_
    refine xr_csI (As := [xi v2, xi 0, xi 9]) dX12_sign_17 ms_X12_isIn ml_X12_198 rfl rfl (Nat.le_of_ble_eq_true rfl) h (fun r5 m6 hr5 h => ?_)
    obtain ⟨hT7, hF8⟩ := h
    refine xr_if_eq (tgt := 32) dX12_sign_20 (by decide) hr5  (fun c => ?_) (fun c => ?_)
    · have h := hT7 c
      refine xr_iconst dX12_sign_32 ?_
      exact xr_zret dX12_sign_33 rfl (x_nz (by decide)).1 ⟨rfl, _, rfl, x_01 (by decide), h⟩
    · have h := hF8 c
      refine xr_aload_n dX12_sign_23 rfl ?_
      refine xr_getI' (v := m6 74 22) dX12_sign_24 fl_X12_227 L_74 rfl rfl rfl ?_
      refine xr_bipush dX12_sign_27 (by decide) ?_
      obtain ⟨q9, hT10, hF11⟩ := h
      refine xr_icmp_ne (tgt := 34) dX12_sign_29 (by decide) q9 (by decide) (fun c => ?_) (fun c => ?_)
      · have h := hT10 c
        refine xr_iconst dX12_sign_34 ?_
        refine xr_istore_n' (ll' := [some (xr G 74), some (xi v1), some (xi v2), some (xi 0)]) dX12_sign_35 (by decide) rfl rfl ?_
        exact h
      · have h := hF11 c
        refine xr_iconst dX12_sign_32 ?_
        exact xr_zret dX12_sign_33 rfl (x_nz (by decide)).1 ⟨rfl, _, rfl, x_01 (by decide), h⟩
set_option maxRecDepth 20000 in
theorem B_X12_sign_36 {G : xG} {l : Launch} {d : Nat} {P : Int → xMem → Prop} {v1 v2 v3 : Int} {μ : xMem} (h : (iR v3 ∧ iR (μ 74 22) ∧ ((μ 74 22) ≤ v3 → ((0 ≤ μ 74 22 ∧ μ 74 22 < 120) ∧ P 1 (st2 (st2 (st2 (st2 (st2 μ 82 (μ 74 22) v1) 83 (μ 74 22) v2) 84 (μ 74 22) (μ 74 4)) 74 22 ((μ 74 22) + 1)) 74 5 ((μ 74 5) + 1)))) ∧ (v3 < (μ 74 22) → ((0 ≤ v3 ∧ v3 < 120) ∧ (iR (μ 82 v3) ∧ iR v1 ∧ ((μ 82 v3) ≠ v1 → K_X12_sign_36 G l (d + 1) P v1 v2 (v3 + 1) μ) ∧ ((μ 82 v3) = v1 → (iR (μ 83 v3) ∧ iR v2 ∧ ((μ 83 v3) ≠ v2 → K_X12_sign_36 G l (d + 1) P v1 v2 (v3 + 1) μ) ∧ ((μ 83 v3) = v2 → P 0 μ)))))))) : K_X12_sign_36 G l (d + 1) P v1 v2 v3 μ := by
  unfold K_X12_sign_36
  refine xr_iload_n dX12_sign_36 rfl ?_
  refine xr_aload_n dX12_sign_37 rfl ?_
  refine xr_getI' (v := μ 74 22) dX12_sign_38 fl_X12_227 L_74 rfl rfl rfl ?_
  obtain ⟨q1, q2, hT3, hF4⟩ := h
  refine xr_icmp_ge (tgt := 72) dX12_sign_41 (by decide) q1 q2 (fun c => ?_) (fun c => ?_)
  · have h := hT3 c
    refine xr_aload_n dX12_sign_72 rfl ?_
    refine xr_getR dX12_sign_73 fl_X12_32 L_74 rfl ?_
    refine xr_aload_n dX12_sign_76 rfl ?_
    refine xr_getI' (v := μ 74 22) dX12_sign_77 fl_X12_227 L_74 rfl rfl rfl ?_
    refine xr_iload_n dX12_sign_80 rfl ?_
    obtain ⟨q5, h⟩ := h
    refine xr_iastore dX12_sign_81 L_82 rfl (by decide) q5 ?_
    refine xr_aload_n dX12_sign_82 rfl ?_
    refine xr_getR dX12_sign_83 fl_X12_35 L_74 rfl ?_
    refine xr_aload_n dX12_sign_86 rfl ?_
    refine xr_getI' (v := μ 74 22) dX12_sign_87 fl_X12_227 L_74 rfl rfl (by simp [st2, cpy]) ?_
    refine xr_iload_n dX12_sign_90 rfl ?_
    refine xr_iastore dX12_sign_91 L_83 rfl (by decide) q5 ?_
    refine xr_aload_n dX12_sign_92 rfl ?_
    refine xr_getR dX12_sign_93 fl_X12_38 L_74 rfl ?_
    refine xr_aload_n dX12_sign_96 rfl ?_
    refine xr_getI' (v := μ 74 22) dX12_sign_97 fl_X12_227 L_74 rfl rfl (by simp [st2, cpy]) ?_
    refine xr_aload_n dX12_sign_100 rfl ?_
    refine xr_getI' (v := μ 74 4) dX12_sign_101 fl_X12_202 L_74 rfl rfl (by simp [st2, cpy]) ?_
    refine xr_iastore dX12_sign_104 L_84 rfl (by decide) q5 ?_
    refine xr_aload_n dX12_sign_105 rfl ?_
    refine xr_dup dX12_sign_106 rfl ?_
    refine xr_getI' (v := μ 74 22) dX12_sign_107 fl_X12_227 L_74 rfl rfl (by simp [st2, cpy]) ?_
    refine xr_iconst dX12_sign_110 ?_
    refine xr_iadd dX12_sign_111 ?_
    refine xr_putI dX12_sign_112 fp_X12_227 L_74 rfl rfl ⟨rfl, rfl⟩ ?_
    refine xr_aload_n dX12_sign_115 rfl ?_
    refine xr_dup dX12_sign_116 rfl ?_
    refine xr_getI' (v := μ 74 5) dX12_sign_117 fl_X12_218 L_74 rfl rfl (by simp [st2, cpy]) ?_
    refine xr_iconst dX12_sign_120 ?_
    refine xr_iadd dX12_sign_121 ?_
    refine xr_putI dX12_sign_122 fp_X12_218 L_74 rfl rfl ⟨rfl, rfl⟩ ?_
    refine xr_iconst dX12_sign_125 ?_
    exact xr_zret dX12_sign_126 rfl (x_nz (by decide)).1 ⟨rfl, _, rfl, x_01 (by decide), h⟩
  · have h := hF4 (Int.not_le.mp c)
    refine xr_aload_n dX12_sign_44 rfl ?_
    refine xr_getR dX12_sign_45 fl_X12_32 L_74 rfl ?_
    refine xr_iload_n dX12_sign_48 rfl ?_
    obtain ⟨q6, h⟩ := h
    refine xr_iaload' (v := μ 82 v3) dX12_sign_49 L_82 rfl (by decide) q6 rfl ?_
    refine xr_iload_n dX12_sign_50 rfl ?_
    obtain ⟨q7, q8, hT9, hF10⟩ := h
    refine xr_icmp_ne (tgt := 66) dX12_sign_51 (by decide) q7 q8 (fun c => ?_) (fun c => ?_)
    · have h := hT9 c
      refine xr_iinc' (ll' := [some (xr G 74), some (xi v1), some (xi v2), some (xi (v3 + 1))]) dX12_sign_66 rfl (by decide) rfl rfl ?_
      refine xr_goto (tgt := 36) dX12_sign_69 (by decide) ?_
      exact h
    · have h := hF10 c
      refine xr_aload_n dX12_sign_54 rfl ?_
      refine xr_getR dX12_sign_55 fl_X12_35 L_74 rfl ?_
      refine xr_iload_n dX12_sign_58 rfl ?_
      refine xr_iaload' (v := μ 83 v3) dX12_sign_59 L_83 rfl (by decide) q6 rfl ?_
      refine xr_iload_n dX12_sign_60 rfl ?_
      obtain ⟨q11, q12, hT13, hF14⟩ := h
      refine xr_icmp_ne (tgt := 66) dX12_sign_61 (by decide) q11 q12 (fun c => ?_) (fun c => ?_)
      · have h := hT13 c
        refine xr_iinc' (ll' := [some (xr G 74), some (xi v1), some (xi v2), some (xi (v3 + 1))]) dX12_sign_66 rfl (by decide) rfl rfl ?_
        refine xr_goto (tgt := 36) dX12_sign_69 (by decide) ?_
        exact h
      · have h := hF14 c
        refine xr_iconst dX12_sign_64 ?_
        exact xr_zret dX12_sign_65 rfl (x_nz (by decide)).1 ⟨rfl, _, rfl, x_01 (by decide), h⟩
theorem dX12_clue_0 : decode cX12_clue 0 = .ok (.aload_n 0, 1) := by decide +kernel
theorem dX12_clue_1 : decode cX12_clue 1 = .ok (.iconst 0, 1) := by decide +kernel
theorem dX12_clue_2 : decode cX12_clue 2 = .ok (.putfield 185, 3) := by decide +kernel
theorem dX12_clue_5 : decode cX12_clue 5 = .ok (.aload_n 0, 1) := by decide +kernel
theorem dX12_clue_6 : decode cX12_clue 6 = .ok (.invokevirtual 205, 3) := by decide +kernel
theorem dX12_clue_9 : decode cX12_clue 9 = .ok (.iload_n 1, 1) := by decide +kernel
theorem dX12_clue_10 : decode cX12_clue 10 = .ok (.iconst 0, 1) := by decide +kernel
theorem dX12_clue_11 : decode cX12_clue 11 = .ok (.bipush 15, 2) := by decide +kernel
theorem dX12_clue_13 : decode cX12_clue 13 = .ok (.invokestatic 198, 3) := by decide +kernel
theorem dX12_clue_16 : decode cX12_clue 16 = .ok (.ifCond .eq 54, 3) := by decide +kernel
theorem dX12_clue_19 : decode cX12_clue 19 = .ok (.aload_n 0, 1) := by decide +kernel
theorem dX12_clue_20 : decode cX12_clue 20 = .ok (.getfield 195, 3) := by decide +kernel
theorem dX12_clue_23 : decode cX12_clue 23 = .ok (.iconst 2, 1) := by decide +kernel
theorem dX12_clue_24 : decode cX12_clue 24 = .ok (.bipush 8, 2) := by decide +kernel
theorem dX12_clue_26 : decode cX12_clue 26 = .ok (.invokestatic 198, 3) := by decide +kernel
theorem dX12_clue_29 : decode cX12_clue 29 = .ok (.ifCond .eq 41, 3) := by decide +kernel
theorem dX12_clue_32 : decode cX12_clue 32 = .ok (.iload_n 2, 1) := by decide +kernel
theorem dX12_clue_33 : decode cX12_clue 33 = .ok (.iconst 1, 1) := by decide +kernel
theorem dX12_clue_34 : decode cX12_clue 34 = .ok (.bipush 10, 2) := by decide +kernel
theorem dX12_clue_36 : decode cX12_clue 36 = .ok (.invokestatic 198, 3) := by decide +kernel
theorem dX12_clue_39 : decode cX12_clue 39 = .ok (.ifCond .eq 31, 3) := by decide +kernel
theorem dX12_clue_42 : decode cX12_clue 42 = .ok (.aload_n 0, 1) := by decide +kernel
theorem dX12_clue_43 : decode cX12_clue 43 = .ok (.getfield 53, 3) := by decide +kernel
theorem dX12_clue_46 : decode cX12_clue 46 = .ok (.iload_n 1, 1) := by decide +kernel
theorem dX12_clue_47 : decode cX12_clue 47 = .ok (.iaload, 1) := by decide +kernel
theorem dX12_clue_48 : decode cX12_clue 48 = .ok (.ifCond .le 13, 3) := by decide +kernel
theorem dX12_clue_51 : decode cX12_clue 51 = .ok (.aload_n 0, 1) := by decide +kernel
theorem dX12_clue_52 : decode cX12_clue 52 = .ok (.getfield 53, 3) := by decide +kernel
theorem dX12_clue_55 : decode cX12_clue 55 = .ok (.iload_n 1, 1) := by decide +kernel
theorem dX12_clue_56 : decode cX12_clue 56 = .ok (.iaload, 1) := by decide +kernel
theorem dX12_clue_57 : decode cX12_clue 57 = .ok (.iload_n 2, 1) := by decide +kernel
theorem dX12_clue_58 : decode cX12_clue 58 = .ok (.if_icmp .ne 12, 3) := by decide +kernel
theorem dX12_clue_61 : decode cX12_clue 61 = .ok (.aload_n 0, 1) := by decide +kernel
theorem dX12_clue_62 : decode cX12_clue 62 = .ok (.getfield 230, 3) := by decide +kernel
theorem dX12_clue_65 : decode cX12_clue 65 = .ok (.bipush 60, 2) := by decide +kernel
theorem dX12_clue_67 : decode cX12_clue 67 = .ok (.if_icmp .ne 5, 3) := by decide +kernel
theorem dX12_clue_70 : decode cX12_clue 70 = .ok (.iconst (-1), 1) := by decide +kernel
theorem dX12_clue_71 : decode cX12_clue 71 = .ok (.ireturn, 1) := by decide +kernel
theorem dX12_clue_72 : decode cX12_clue 72 = .ok (.iconst 0, 1) := by decide +kernel
theorem dX12_clue_73 : decode cX12_clue 73 = .ok (.istore_n 3, 1) := by decide +kernel
theorem dX12_clue_74 : decode cX12_clue 74 = .ok (.iload_n 3, 1) := by decide +kernel
theorem dX12_clue_75 : decode cX12_clue 75 = .ok (.aload_n 0, 1) := by decide +kernel
theorem dX12_clue_76 : decode cX12_clue 76 = .ok (.getfield 195, 3) := by decide +kernel
theorem dX12_clue_79 : decode cX12_clue 79 = .ok (.if_icmp .ge 24, 3) := by decide +kernel
theorem dX12_clue_82 : decode cX12_clue 82 = .ok (.aload_n 0, 1) := by decide +kernel
theorem dX12_clue_83 : decode cX12_clue 83 = .ok (.aload_n 0, 1) := by decide +kernel
theorem dX12_clue_84 : decode cX12_clue 84 = .ok (.getfield 7, 3) := by decide +kernel
theorem dX12_clue_87 : decode cX12_clue 87 = .ok (.iload_n 3, 1) := by decide +kernel
theorem dX12_clue_88 : decode cX12_clue 88 = .ok (.baload, 1) := by decide +kernel
theorem dX12_clue_89 : decode cX12_clue 89 = .ok (.invokevirtual 221, 3) := by decide +kernel
theorem dX12_clue_92 : decode cX12_clue 92 = .ok (.ifCond .ne 5, 3) := by decide +kernel
theorem dX12_clue_95 : decode cX12_clue 95 = .ok (.iconst (-1), 1) := by decide +kernel
theorem dX12_clue_96 : decode cX12_clue 96 = .ok (.ireturn, 1) := by decide +kernel
theorem dX12_clue_97 : decode cX12_clue 97 = .ok (.iinc 3 1, 3) := by decide +kernel
theorem dX12_clue_100 : decode cX12_clue 100 = .ok (.goto (-26), 3) := by decide +kernel
theorem dX12_clue_103 : decode cX12_clue 103 = .ok (.iconst 0, 1) := by decide +kernel
theorem dX12_clue_104 : decode cX12_clue 104 = .ok (.istore_n 3, 1) := by decide +kernel
theorem dX12_clue_105 : decode cX12_clue 105 = .ok (.iload_n 3, 1) := by decide +kernel
theorem dX12_clue_106 : decode cX12_clue 106 = .ok (.aload_n 0, 1) := by decide +kernel
theorem dX12_clue_107 : decode cX12_clue 107 = .ok (.getfield 195, 3) := by decide +kernel
theorem dX12_clue_110 : decode cX12_clue 110 = .ok (.if_icmp .ge 29, 3) := by decide +kernel
theorem dX12_clue_113 : decode cX12_clue 113 = .ok (.aload_n 0, 1) := by decide +kernel
theorem dX12_clue_114 : decode cX12_clue 114 = .ok (.getfield 50, 3) := by decide +kernel
theorem dX12_clue_117 : decode cX12_clue 117 = .ok (.bipush 8, 2) := by decide +kernel
theorem dX12_clue_119 : decode cX12_clue 119 = .ok (.aload_n 0, 1) := by decide +kernel
theorem dX12_clue_120 : decode cX12_clue 120 = .ok (.getfield 230, 3) := by decide +kernel
theorem dX12_clue_123 : decode cX12_clue 123 = .ok (.imul, 1) := by decide +kernel
theorem dX12_clue_124 : decode cX12_clue 124 = .ok (.iload_n 3, 1) := by decide +kernel
theorem dX12_clue_125 : decode cX12_clue 125 = .ok (.iadd, 1) := by decide +kernel
theorem dX12_clue_126 : decode cX12_clue 126 = .ok (.aload_n 0, 1) := by decide +kernel
theorem dX12_clue_127 : decode cX12_clue 127 = .ok (.getfield 7, 3) := by decide +kernel
theorem dX12_clue_130 : decode cX12_clue 130 = .ok (.iload_n 3, 1) := by decide +kernel
theorem dX12_clue_131 : decode cX12_clue 131 = .ok (.baload, 1) := by decide +kernel
theorem dX12_clue_132 : decode cX12_clue 132 = .ok (.iastore, 1) := by decide +kernel
theorem dX12_clue_133 : decode cX12_clue 133 = .ok (.iinc 3 1, 3) := by decide +kernel
theorem dX12_clue_136 : decode cX12_clue 136 = .ok (.goto (-31), 3) := by decide +kernel
theorem dX12_clue_139 : decode cX12_clue 139 = .ok (.aload_n 0, 1) := by decide +kernel
theorem dX12_clue_140 : decode cX12_clue 140 = .ok (.getfield 47, 3) := by decide +kernel
theorem dX12_clue_143 : decode cX12_clue 143 = .ok (.aload_n 0, 1) := by decide +kernel
theorem dX12_clue_144 : decode cX12_clue 144 = .ok (.getfield 230, 3) := by decide +kernel
theorem dX12_clue_147 : decode cX12_clue 147 = .ok (.aload_n 0, 1) := by decide +kernel
theorem dX12_clue_148 : decode cX12_clue 148 = .ok (.getfield 195, 3) := by decide +kernel
theorem dX12_clue_151 : decode cX12_clue 151 = .ok (.iastore, 1) := by decide +kernel
theorem dX12_clue_152 : decode cX12_clue 152 = .ok (.aload_n 0, 1) := by decide +kernel
theorem dX12_clue_153 : decode cX12_clue 153 = .ok (.getfield 41, 3) := by decide +kernel
theorem dX12_clue_156 : decode cX12_clue 156 = .ok (.aload_n 0, 1) := by decide +kernel
theorem dX12_clue_157 : decode cX12_clue 157 = .ok (.getfield 230, 3) := by decide +kernel
theorem dX12_clue_160 : decode cX12_clue 160 = .ok (.iload_n 1, 1) := by decide +kernel
theorem dX12_clue_161 : decode cX12_clue 161 = .ok (.iastore, 1) := by decide +kernel
theorem dX12_clue_162 : decode cX12_clue 162 = .ok (.aload_n 0, 1) := by decide +kernel
theorem dX12_clue_163 : decode cX12_clue 163 = .ok (.getfield 44, 3) := by decide +kernel
theorem dX12_clue_166 : decode cX12_clue 166 = .ok (.aload_n 0, 1) := by decide +kernel
theorem dX12_clue_167 : decode cX12_clue 167 = .ok (.getfield 230, 3) := by decide +kernel
theorem dX12_clue_170 : decode cX12_clue 170 = .ok (.aload_n 0, 1) := by decide +kernel
theorem dX12_clue_171 : decode cX12_clue 171 = .ok (.getfield 202, 3) := by decide +kernel
theorem dX12_clue_174 : decode cX12_clue 174 = .ok (.iastore, 1) := by decide +kernel
theorem dX12_clue_175 : decode cX12_clue 175 = .ok (.aload_n 0, 1) := by decide +kernel
theorem dX12_clue_176 : decode cX12_clue 176 = .ok (.dup, 1) := by decide +kernel
theorem dX12_clue_177 : decode cX12_clue 177 = .ok (.getfield 230, 3) := by decide +kernel
theorem dX12_clue_180 : decode cX12_clue 180 = .ok (.iconst 1, 1) := by decide +kernel
theorem dX12_clue_181 : decode cX12_clue 181 = .ok (.iadd, 1) := by decide +kernel
theorem dX12_clue_182 : decode cX12_clue 182 = .ok (.putfield 230, 3) := by decide +kernel
theorem dX12_clue_185 : decode cX12_clue 185 = .ok (.aload_n 0, 1) := by decide +kernel
theorem dX12_clue_186 : decode cX12_clue 186 = .ok (.getfield 53, 3) := by decide +kernel
theorem dX12_clue_189 : decode cX12_clue 189 = .ok (.iload_n 1, 1) := by decide +kernel
theorem dX12_clue_190 : decode cX12_clue 190 = .ok (.iload_n 2, 1) := by decide +kernel
theorem dX12_clue_191 : decode cX12_clue 191 = .ok (.iastore, 1) := by decide +kernel
theorem dX12_clue_192 : decode cX12_clue 192 = .ok (.aload_n 0, 1) := by decide +kernel
theorem dX12_clue_193 : decode cX12_clue 193 = .ok (.dup, 1) := by decide +kernel
theorem dX12_clue_194 : decode cX12_clue 194 = .ok (.getfield 218, 3) := by decide +kernel
theorem dX12_clue_197 : decode cX12_clue 197 = .ok (.iconst 1, 1) := by decide +kernel
theorem dX12_clue_198 : decode cX12_clue 198 = .ok (.iadd, 1) := by decide +kernel
theorem dX12_clue_199 : decode cX12_clue 199 = .ok (.putfield 218, 3) := by decide +kernel
theorem dX12_clue_202 : decode cX12_clue 202 = .ok (.aload_n 0, 1) := by decide +kernel
theorem dX12_clue_203 : decode cX12_clue 203 = .ok (.getfield 195, 3) := by decide +kernel
theorem dX12_clue_206 : decode cX12_clue 206 = .ok (.ireturn, 1) := by decide +kernel
def K_X12_clue_61 (G : xG) (l : Launch) (d : Nat) (P : Int → xMem → Prop) (v1 v2 : Int) (μ : xMem) : Prop := RR G l d 0 0 false mX12_clue (qI P) 61 [some (xr G 74), some (xi v1), some (xi v2), none] [] LAY μ 0 0
def K_X12_clue_74 (G : xG) (l : Launch) (d : Nat) (P : Int → xMem → Prop) (v1 v2 v3 : Int) (μ : xMem) : Prop := RR G l d 0 0 false mX12_clue (qI P) 74 [some (xr G 74), some (xi v1), some (xi v2), some (xi v3)] [] LAY μ 0 0
def K_X12_clue_105 (G : xG) (l : Launch) (d : Nat) (P : Int → xMem → Prop) (v1 v2 v3 : Int) (μ : xMem) : Prop := RR G l d 0 0 false mX12_clue (qI P) 105 [some (xr G 74), some (xi v1), some (xi v2), some (xi v3)] [] LAY μ 0 0
set_option maxRecDepth 20000 in
theorem E_X12_clue {G : xG} {l : Launch} {d : Nat} {P : Int → xMem → Prop} {v1 v2 : Int} {μ : xMem} (h : CV G l d mX12_taken [xr G 74] (st2 μ 74 0 0) (fun m2 => CI G l d mX12_isIn [xi v1, xi 0, xi 15] m2 (fun r3 m4 => ((r3 = 0 → P (-1) m4) ∧ (r3 ≠ 0 → CI G l d mX12_isIn [xi (m4 74 3), xi 2, xi 8] m4 (fun r7 m8 => ((r7 = 0 → P (-1) m8) ∧ (r7 ≠ 0 → CI G l d mX12_isIn [xi v2, xi 1, xi 10] m8 (fun r11 m12 => ((r11 = 0 → P (-1) m12) ∧ (r11 ≠ 0 → ((0 ≤ v1 ∧ v1 < 16) ∧ (iR (m12 89 v1) ∧ ((m12 89 v1) ≤ 0 → K_X12_clue_61 G l (d + 1) P v1 v2 m12) ∧ (0 < (m12 89 v1) → (iR v2 ∧ ((m12 89 v1) ≠ v2 → P (-1) m12) ∧ ((m12 89 v1) = v2 → K_X12_clue_61 G l (d + 1) P v1 v2 m12)))))))))))))))) : CI G l (d + 1) mX12_clue [xr G 74, xi v1, xi v2] μ P := by
  refine CC.ofRR (ll := [some (xr G 74), some (xi v1), some (xi v2), none]) (by decide +kernel) (Nat.le_of_ble_eq_true rfl) rfl (fun h => by cases h) ?_
  refine xr_aload_n dX12_clue_0 rfl ?_
  refine xr_iconst dX12_clue_1 ?_
  refine xr_putI dX12_clue_2 fp_X12_185 L_74 rfl rfl ⟨rfl, rfl⟩ ?_
  refine xr_aload_n dX12_clue_5 rfl ?_
  refine xr_cvV (As := []) dX12_clue_6 mi_X12_taken ml_X12_205 se_X12_taken L_74 rfl rfl rfl (Nat.le_of_ble_eq_true rfl) h (fun m2 h => ?_)
  refine xr_iload_n dX12_clue_9 rfl ?_
  refine xr_iconst dX12_clue_10 ?_
  refine xr_bipush dX12_clue_11 (by decide) ?_
  refine xr_csI (As := [xi v1, xi 0, xi 15]) dX12_clue_13 ms_X12_isIn ml_X12_198 rfl rfl (Nat.le_of_ble_eq_true rfl) h (fun r3 m4 hr3 h => ?_)
  obtain ⟨hT5, hF6⟩ := h
  refine xr_if_eq (tgt := 70) dX12_clue_16 (by decide) hr3  (fun c => ?_) (fun c => ?_)
  · have h := hT5 c
    refine xr_iconst dX12_clue_70 ?_
    exact xr_iret dX12_clue_71 rfl ⟨rfl, _, rfl, (by decide), h⟩
  · have h := hF6 c
    refine xr_aload_n dX12_clue_19 rfl ?_
    refine xr_getI' (v := m4 74 3) dX12_clue_20 fl_X12_195 L_74 rfl rfl rfl ?_
    refine xr_iconst dX12_clue_23 ?_
    refine xr_bipush dX12_clue_24 (by decide) ?_
    refine xr_csI (As := [xi (m4 74 3), xi 2, xi 8]) dX12_clue_26 ms_X12_isIn ml_X12_198 rfl rfl (Nat.le_of_ble_eq_true rfl) h (fun r7 m8 hr7 h => ?_)
    obtain ⟨hT9, hF10⟩ := h
    refine xr_if_eq (tgt := 70) dX12_clue_29 (by decide) hr7  (fun c => ?_) (fun c => ?_)
    · have h := hT9 c
      refine xr_iconst dX12_clue_70 ?_
      exact xr_iret dX12_clue_71 rfl ⟨rfl, _, rfl, (by decide), h⟩
    · have h := hF10 c
      refine xr_iload_n dX12_clue_32 rfl ?_
      refine xr_iconst dX12_clue_33 ?_
      refine xr_bipush dX12_clue_34 (by decide) ?_
      refine xr_csI (As := [xi v2, xi 1, xi 10]) dX12_clue_36 ms_X12_isIn ml_X12_198 rfl rfl (Nat.le_of_ble_eq_true rfl) h (fun r11 m12 hr11 h => ?_)
      obtain ⟨hT13, hF14⟩ := h
      refine xr_if_eq (tgt := 70) dX12_clue_39 (by decide) hr11  (fun c => ?_) (fun c => ?_)
      · have h := hT13 c
        refine xr_iconst dX12_clue_70 ?_
        exact xr_iret dX12_clue_71 rfl ⟨rfl, _, rfl, (by decide), h⟩
      · have h := hF14 c
        refine xr_aload_n dX12_clue_42 rfl ?_
        refine xr_getR dX12_clue_43 fl_X12_53 L_74 rfl ?_
        refine xr_iload_n dX12_clue_46 rfl ?_
        obtain ⟨q15, h⟩ := h
        refine xr_iaload' (v := m12 89 v1) dX12_clue_47 L_89 rfl (by decide) q15 rfl ?_
        obtain ⟨q16, hT17, hF18⟩ := h
        refine xr_if_le (tgt := 61) dX12_clue_48 (by decide) q16  (fun c => ?_) (fun c => ?_)
        · have h := hT17 c
          exact h
        · have h := hF18 (Int.not_le.mp c)
          refine xr_aload_n dX12_clue_51 rfl ?_
          refine xr_getR dX12_clue_52 fl_X12_53 L_74 rfl ?_
          refine xr_iload_n dX12_clue_55 rfl ?_
          refine xr_iaload' (v := m12 89 v1) dX12_clue_56 L_89 rfl (by decide) q15 rfl ?_
          refine xr_iload_n dX12_clue_57 rfl ?_
          obtain ⟨q19, hT20, hF21⟩ := h
          refine xr_icmp_ne (tgt := 70) dX12_clue_58 (by decide) q16 q19 (fun c => ?_) (fun c => ?_)
          · have h := hT20 c
            refine xr_iconst dX12_clue_70 ?_
            exact xr_iret dX12_clue_71 rfl ⟨rfl, _, rfl, (by decide), h⟩
          · have h := hF21 c
            exact h
set_option maxRecDepth 20000 in
theorem B_X12_clue_61 {G : xG} {l : Launch} {d : Nat} {P : Int → xMem → Prop} {v1 v2 : Int} {μ : xMem} (h : (iR (μ 74 23) ∧ ((μ 74 23) ≠ 60 → K_X12_clue_74 G l (d + 1) P v1 v2 0 μ) ∧ ((μ 74 23) = 60 → P (-1) μ))) : K_X12_clue_61 G l (d + 1) P v1 v2 μ := by
  unfold K_X12_clue_61
  refine xr_aload_n dX12_clue_61 rfl ?_
  refine xr_getI' (v := μ 74 23) dX12_clue_62 fl_X12_230 L_74 rfl rfl rfl ?_
  refine xr_bipush dX12_clue_65 (by decide) ?_
  obtain ⟨q1, hT2, hF3⟩ := h
  refine xr_icmp_ne (tgt := 72) dX12_clue_67 (by decide) q1 (by decide) (fun c => ?_) (fun c => ?_)
  · have h := hT2 c
    refine xr_iconst dX12_clue_72 ?_
    refine xr_istore_n' (ll' := [some (xr G 74), some (xi v1), some (xi v2), some (xi 0)]) dX12_clue_73 (by decide) rfl rfl ?_
    exact h
  · have h := hF3 c
    refine xr_iconst dX12_clue_70 ?_
    exact xr_iret dX12_clue_71 rfl ⟨rfl, _, rfl, (by decide), h⟩
set_option maxRecDepth 20000 in
theorem B_X12_clue_74 {G : xG} {l : Launch} {d : Nat} {P : Int → xMem → Prop} {v1 v2 v3 : Int} {μ : xMem} (h : (iR v3 ∧ iR (μ 74 3) ∧ ((μ 74 3) ≤ v3 → K_X12_clue_105 G l (d + 1) P v1 v2 0 μ) ∧ (v3 < (μ 74 3) → ((0 ≤ v3 ∧ v3 < 180) ∧ CI G l d mX12_isWord [xr G 74, xi (μ 75 v3)] μ (fun r6 m7 => ((r6 ≠ 0 → K_X12_clue_74 G l (d + 1) P v1 v2 (v3 + 1) m7) ∧ (r6 = 0 → P (-1) m7))))))) : K_X12_clue_74 G l (d + 1) P v1 v2 v3 μ := by
  unfold K_X12_clue_74
  refine xr_iload_n dX12_clue_74 rfl ?_
  refine xr_aload_n dX12_clue_75 rfl ?_
  refine xr_getI' (v := μ 74 3) dX12_clue_76 fl_X12_195 L_74 rfl rfl rfl ?_
  obtain ⟨q1, q2, hT3, hF4⟩ := h
  refine xr_icmp_ge (tgt := 103) dX12_clue_79 (by decide) q1 q2 (fun c => ?_) (fun c => ?_)
  · have h := hT3 c
    refine xr_iconst dX12_clue_103 ?_
    refine xr_istore_n' (ll' := [some (xr G 74), some (xi v1), some (xi v2), some (xi 0)]) dX12_clue_104 (by decide) rfl rfl ?_
    exact h
  · have h := hF4 (Int.not_le.mp c)
    refine xr_aload_n dX12_clue_82 rfl ?_
    refine xr_aload_n dX12_clue_83 rfl ?_
    refine xr_getR dX12_clue_84 fl_X12_7 L_74 rfl ?_
    refine xr_iload_n dX12_clue_87 rfl ?_
    obtain ⟨q5, h⟩ := h
    refine xr_baload' (v := μ 75 v3) dX12_clue_88 L_75 rfl (by decide) q5 rfl ?_
    refine xr_cvI (As := [xi (μ 75 v3)]) dX12_clue_89 mi_X12_isWord ml_X12_221 se_X12_isWord L_74 rfl rfl rfl (Nat.le_of_ble_eq_true rfl) h (fun r6 m7 hr6 h => ?_)
    obtain ⟨hT8, hF9⟩ := h
    refine xr_if_ne (tgt := 97) dX12_clue_92 (by decide) hr6  (fun c => ?_) (fun c => ?_)
    · have h := hT8 c
      refine xr_iinc' (ll' := [some (xr G 74), some (xi v1), some (xi v2), some (xi (v3 + 1))]) dX12_clue_97 rfl (by decide) rfl rfl ?_
      refine xr_goto (tgt := 74) dX12_clue_100 (by decide) ?_
      exact h
    · have h := hF9 c
      refine xr_iconst dX12_clue_95 ?_
      exact xr_iret dX12_clue_96 rfl ⟨rfl, _, rfl, (by decide), h⟩
set_option maxRecDepth 20000 in
theorem B_X12_clue_105 {G : xG} {l : Launch} {d : Nat} {P : Int → xMem → Prop} {v1 v2 v3 : Int} {μ : xMem} (h : (iR v3 ∧ iR (μ 74 3) ∧ ((μ 74 3) ≤ v3 → ((0 ≤ μ 74 23 ∧ μ 74 23 < 60) ∧ ((0 ≤ v1 ∧ v1 < 16) ∧ P (μ 74 3) (st2 (st2 (st2 (st2 (st2 (st2 μ 87 (μ 74 23) (μ 74 3)) 85 (μ 74 23) v1) 86 (μ 74 23) (μ 74 4)) 74 23 ((μ 74 23) + 1)) 89 v1 v2) 74 5 ((μ 74 5) + 1))))) ∧ (v3 < (μ 74 3) → ((0 ≤ v3 ∧ v3 < 180) ∧ ((0 ≤ (8 * (μ 74 23)) + v3 ∧ (8 * (μ 74 23)) + v3 < 480) ∧ K_X12_clue_105 G l (d + 1) P v1 v2 (v3 + 1) (st2 μ 88 ((8 * (μ 74 23)) + v3) (μ 75 v3))))))) : K_X12_clue_105 G l (d + 1) P v1 v2 v3 μ := by
  unfold K_X12_clue_105
  refine xr_iload_n dX12_clue_105 rfl ?_
  refine xr_aload_n dX12_clue_106 rfl ?_
  refine xr_getI' (v := μ 74 3) dX12_clue_107 fl_X12_195 L_74 rfl rfl rfl ?_
  obtain ⟨q1, q2, hT3, hF4⟩ := h
  refine xr_icmp_ge (tgt := 139) dX12_clue_110 (by decide) q1 q2 (fun c => ?_) (fun c => ?_)
  · have h := hT3 c
    refine xr_aload_n dX12_clue_139 rfl ?_
    refine xr_getR dX12_clue_140 fl_X12_47 L_74 rfl ?_
    refine xr_aload_n dX12_clue_143 rfl ?_
    refine xr_getI' (v := μ 74 23) dX12_clue_144 fl_X12_230 L_74 rfl rfl rfl ?_
    refine xr_aload_n dX12_clue_147 rfl ?_
    refine xr_getI' (v := μ 74 3) dX12_clue_148 fl_X12_195 L_74 rfl rfl rfl ?_
    obtain ⟨q5, h⟩ := h
    refine xr_iastore dX12_clue_151 L_87 rfl (by decide) q5 ?_
    refine xr_aload_n dX12_clue_152 rfl ?_
    refine xr_getR dX12_clue_153 fl_X12_41 L_74 rfl ?_
    refine xr_aload_n dX12_clue_156 rfl ?_
    refine xr_getI' (v := μ 74 23) dX12_clue_157 fl_X12_230 L_74 rfl rfl (by simp [st2, cpy]) ?_
    refine xr_iload_n dX12_clue_160 rfl ?_
    refine xr_iastore dX12_clue_161 L_85 rfl (by decide) q5 ?_
    refine xr_aload_n dX12_clue_162 rfl ?_
    refine xr_getR dX12_clue_163 fl_X12_44 L_74 rfl ?_
    refine xr_aload_n dX12_clue_166 rfl ?_
    refine xr_getI' (v := μ 74 23) dX12_clue_167 fl_X12_230 L_74 rfl rfl (by simp [st2, cpy]) ?_
    refine xr_aload_n dX12_clue_170 rfl ?_
    refine xr_getI' (v := μ 74 4) dX12_clue_171 fl_X12_202 L_74 rfl rfl (by simp [st2, cpy]) ?_
    refine xr_iastore dX12_clue_174 L_86 rfl (by decide) q5 ?_
    refine xr_aload_n dX12_clue_175 rfl ?_
    refine xr_dup dX12_clue_176 rfl ?_
    refine xr_getI' (v := μ 74 23) dX12_clue_177 fl_X12_230 L_74 rfl rfl (by simp [st2, cpy]) ?_
    refine xr_iconst dX12_clue_180 ?_
    refine xr_iadd dX12_clue_181 ?_
    refine xr_putI dX12_clue_182 fp_X12_230 L_74 rfl rfl ⟨rfl, rfl⟩ ?_
    refine xr_aload_n dX12_clue_185 rfl ?_
    refine xr_getR dX12_clue_186 fl_X12_53 L_74 rfl ?_
    refine xr_iload_n dX12_clue_189 rfl ?_
    refine xr_iload_n dX12_clue_190 rfl ?_
    obtain ⟨q6, h⟩ := h
    refine xr_iastore dX12_clue_191 L_89 rfl (by decide) q6 ?_
    refine xr_aload_n dX12_clue_192 rfl ?_
    refine xr_dup dX12_clue_193 rfl ?_
    refine xr_getI' (v := μ 74 5) dX12_clue_194 fl_X12_218 L_74 rfl rfl (by simp [st2, cpy]) ?_
    refine xr_iconst dX12_clue_197 ?_
    refine xr_iadd dX12_clue_198 ?_
    refine xr_putI dX12_clue_199 fp_X12_218 L_74 rfl rfl ⟨rfl, rfl⟩ ?_
    refine xr_aload_n dX12_clue_202 rfl ?_
    refine xr_getI' (v := μ 74 3) dX12_clue_203 fl_X12_195 L_74 rfl rfl (by simp [st2, cpy]) ?_
    exact xr_iret dX12_clue_206 rfl ⟨rfl, _, rfl, q2, h⟩
  · have h := hF4 (Int.not_le.mp c)
    refine xr_aload_n dX12_clue_113 rfl ?_
    refine xr_getR dX12_clue_114 fl_X12_50 L_74 rfl ?_
    refine xr_bipush dX12_clue_117 (by decide) ?_
    refine xr_aload_n dX12_clue_119 rfl ?_
    refine xr_getI' (v := μ 74 23) dX12_clue_120 fl_X12_230 L_74 rfl rfl rfl ?_
    refine xr_imul dX12_clue_123 ?_
    refine xr_iload_n dX12_clue_124 rfl ?_
    refine xr_iadd dX12_clue_125 ?_
    refine xr_aload_n dX12_clue_126 rfl ?_
    refine xr_getR dX12_clue_127 fl_X12_7 L_74 rfl ?_
    refine xr_iload_n dX12_clue_130 rfl ?_
    obtain ⟨q7, h⟩ := h
    refine xr_baload' (v := μ 75 v3) dX12_clue_131 L_75 rfl (by decide) q7 rfl ?_
    obtain ⟨q8, h⟩ := h
    refine xr_iastore dX12_clue_132 L_88 rfl (by decide) q8 ?_
    refine xr_iinc' (ll' := [some (xr G 74), some (xi v1), some (xi v2), some (xi (v3 + 1))]) dX12_clue_133 rfl (by decide) rfl rfl ?_
    refine xr_goto (tgt := 105) dX12_clue_136 (by decide) ?_
    exact h
theorem dX12_tellingOf_0 : decode cX12_tellingOf 0 = .ok (.iconst (-1), 1) := by decide +kernel
theorem dX12_tellingOf_1 : decode cX12_tellingOf 1 = .ok (.istore_n 3, 1) := by decide +kernel
theorem dX12_tellingOf_2 : decode cX12_tellingOf 2 = .ok (.iconst 0, 1) := by decide +kernel
theorem dX12_tellingOf_3 : decode cX12_tellingOf 3 = .ok (.istore 4, 2) := by decide +kernel
theorem dX12_tellingOf_5 : decode cX12_tellingOf 5 = .ok (.iload 4, 2) := by decide +kernel
theorem dX12_tellingOf_7 : decode cX12_tellingOf 7 = .ok (.aload_n 0, 1) := by decide +kernel
theorem dX12_tellingOf_8 : decode cX12_tellingOf 8 = .ok (.getfield 230, 3) := by decide +kernel
theorem dX12_tellingOf_11 : decode cX12_tellingOf 11 = .ok (.if_icmp .ge 34, 3) := by decide +kernel
theorem dX12_tellingOf_14 : decode cX12_tellingOf 14 = .ok (.aload_n 0, 1) := by decide +kernel
theorem dX12_tellingOf_15 : decode cX12_tellingOf 15 = .ok (.getfield 41, 3) := by decide +kernel
theorem dX12_tellingOf_18 : decode cX12_tellingOf 18 = .ok (.iload 4, 2) := by decide +kernel
theorem dX12_tellingOf_20 : decode cX12_tellingOf 20 = .ok (.iaload, 1) := by decide +kernel
theorem dX12_tellingOf_21 : decode cX12_tellingOf 21 = .ok (.iload_n 1, 1) := by decide +kernel
theorem dX12_tellingOf_22 : decode cX12_tellingOf 22 = .ok (.if_icmp .ne 17, 3) := by decide +kernel
theorem dX12_tellingOf_25 : decode cX12_tellingOf 25 = .ok (.aload_n 0, 1) := by decide +kernel
theorem dX12_tellingOf_26 : decode cX12_tellingOf 26 = .ok (.getfield 44, 3) := by decide +kernel
theorem dX12_tellingOf_29 : decode cX12_tellingOf 29 = .ok (.iload 4, 2) := by decide +kernel
theorem dX12_tellingOf_31 : decode cX12_tellingOf 31 = .ok (.iaload, 1) := by decide +kernel
theorem dX12_tellingOf_32 : decode cX12_tellingOf 32 = .ok (.iload_n 2, 1) := by decide +kernel
theorem dX12_tellingOf_33 : decode cX12_tellingOf 33 = .ok (.if_icmp .gt 6, 3) := by decide +kernel
theorem dX12_tellingOf_36 : decode cX12_tellingOf 36 = .ok (.iload 4, 2) := by decide +kernel
theorem dX12_tellingOf_38 : decode cX12_tellingOf 38 = .ok (.istore_n 3, 1) := by decide +kernel
theorem dX12_tellingOf_39 : decode cX12_tellingOf 39 = .ok (.iinc 4 1, 3) := by decide +kernel
theorem dX12_tellingOf_42 : decode cX12_tellingOf 42 = .ok (.goto (-37), 3) := by decide +kernel
theorem dX12_tellingOf_45 : decode cX12_tellingOf 45 = .ok (.iload_n 3, 1) := by decide +kernel
theorem dX12_tellingOf_46 : decode cX12_tellingOf 46 = .ok (.ireturn, 1) := by decide +kernel
def K_X12_tellingOf_5 (G : xG) (l : Launch) (d : Nat) (P : Int → xMem → Prop) (v1 v2 v3 v4 : Int) (μ : xMem) : Prop := RR G l d 0 0 false mX12_tellingOf (qI P) 5 [some (xr G 74), some (xi v1), some (xi v2), some (xi v3), some (xi v4)] [] LAY μ 0 0
set_option maxRecDepth 20000 in
theorem E_X12_tellingOf {G : xG} {l : Launch} {d : Nat} {P : Int → xMem → Prop} {v1 v2 : Int} {μ : xMem} (h : K_X12_tellingOf_5 G l (d + 1) P v1 v2 (-1) 0 μ) : CI G l (d + 1) mX12_tellingOf [xr G 74, xi v1, xi v2] μ P := by
  refine CC.ofRR (ll := [some (xr G 74), some (xi v1), some (xi v2), none, none]) (by decide +kernel) (Nat.le_of_ble_eq_true rfl) rfl (fun h => by cases h) ?_
  refine xr_iconst dX12_tellingOf_0 ?_
  refine xr_istore_n' (ll' := [some (xr G 74), some (xi v1), some (xi v2), some (xi (-1)), none]) dX12_tellingOf_1 (by decide) rfl rfl ?_
  refine xr_iconst dX12_tellingOf_2 ?_
  refine xr_istore' (ll' := [some (xr G 74), some (xi v1), some (xi v2), some (xi (-1)), some (xi 0)]) dX12_tellingOf_3 (by decide) rfl rfl ?_
  exact h
set_option maxRecDepth 20000 in
theorem B_X12_tellingOf_5 {G : xG} {l : Launch} {d : Nat} {P : Int → xMem → Prop} {v1 v2 v3 v4 : Int} {μ : xMem} (h : (iR v4 ∧ iR (μ 74 23) ∧ ((μ 74 23) ≤ v4 → (iR v3 ∧ P v3 μ)) ∧ (v4 < (μ 74 23) → ((0 ≤ v4 ∧ v4 < 60) ∧ (iR (μ 85 v4) ∧ iR v1 ∧ ((μ 85 v4) ≠ v1 → K_X12_tellingOf_5 G l (d + 1) P v1 v2 v3 (v4 + 1) μ) ∧ ((μ 85 v4) = v1 → (iR (μ 86 v4) ∧ iR v2 ∧ (v2 < (μ 86 v4) → K_X12_tellingOf_5 G l (d + 1) P v1 v2 v3 (v4 + 1) μ) ∧ ((μ 86 v4) ≤ v2 → K_X12_tellingOf_5 G l (d + 1) P v1 v2 v4 (v4 + 1) μ)))))))) : K_X12_tellingOf_5 G l (d + 1) P v1 v2 v3 v4 μ := by
  unfold K_X12_tellingOf_5
  refine xr_iload dX12_tellingOf_5 rfl ?_
  refine xr_aload_n dX12_tellingOf_7 rfl ?_
  refine xr_getI' (v := μ 74 23) dX12_tellingOf_8 fl_X12_230 L_74 rfl rfl rfl ?_
  obtain ⟨q1, q2, hT3, hF4⟩ := h
  refine xr_icmp_ge (tgt := 45) dX12_tellingOf_11 (by decide) q1 q2 (fun c => ?_) (fun c => ?_)
  · have h := hT3 c
    refine xr_iload_n dX12_tellingOf_45 rfl ?_
    obtain ⟨q5, h⟩ := h
    exact xr_iret dX12_tellingOf_46 rfl ⟨rfl, _, rfl, q5, h⟩
  · have h := hF4 (Int.not_le.mp c)
    refine xr_aload_n dX12_tellingOf_14 rfl ?_
    refine xr_getR dX12_tellingOf_15 fl_X12_41 L_74 rfl ?_
    refine xr_iload dX12_tellingOf_18 rfl ?_
    obtain ⟨q6, h⟩ := h
    refine xr_iaload' (v := μ 85 v4) dX12_tellingOf_20 L_85 rfl (by decide) q6 rfl ?_
    refine xr_iload_n dX12_tellingOf_21 rfl ?_
    obtain ⟨q7, q8, hT9, hF10⟩ := h
    refine xr_icmp_ne (tgt := 39) dX12_tellingOf_22 (by decide) q7 q8 (fun c => ?_) (fun c => ?_)
    · have h := hT9 c
      refine xr_iinc' (ll' := [some (xr G 74), some (xi v1), some (xi v2), some (xi v3), some (xi (v4 + 1))]) dX12_tellingOf_39 rfl (by decide) rfl rfl ?_
      refine xr_goto (tgt := 5) dX12_tellingOf_42 (by decide) ?_
      exact h
    · have h := hF10 c
      refine xr_aload_n dX12_tellingOf_25 rfl ?_
      refine xr_getR dX12_tellingOf_26 fl_X12_44 L_74 rfl ?_
      refine xr_iload dX12_tellingOf_29 rfl ?_
      refine xr_iaload' (v := μ 86 v4) dX12_tellingOf_31 L_86 rfl (by decide) q6 rfl ?_
      refine xr_iload_n dX12_tellingOf_32 rfl ?_
      obtain ⟨q11, q12, hT13, hF14⟩ := h
      refine xr_icmp_gt (tgt := 39) dX12_tellingOf_33 (by decide) q11 q12 (fun c => ?_) (fun c => ?_)
      · have h := hT13 c
        refine xr_iinc' (ll' := [some (xr G 74), some (xi v1), some (xi v2), some (xi v3), some (xi (v4 + 1))]) dX12_tellingOf_39 rfl (by decide) rfl rfl ?_
        refine xr_goto (tgt := 5) dX12_tellingOf_42 (by decide) ?_
        exact h
      · have h := hF14 (Int.not_lt.mp c)
        refine xr_iload dX12_tellingOf_36 rfl ?_
        refine xr_istore_n' (ll' := [some (xr G 74), some (xi v1), some (xi v2), some (xi v4), some (xi v4)]) dX12_tellingOf_38 (by decide) rfl rfl ?_
        refine xr_iinc' (ll' := [some (xr G 74), some (xi v1), some (xi v2), some (xi v4), some (xi (v4 + 1))]) dX12_tellingOf_39 rfl (by decide) rfl rfl ?_
        refine xr_goto (tgt := 5) dX12_tellingOf_42 (by decide) ?_
        exact h
theorem dX12_know_0 : decode cX12_know 0 = .ok (.aload_n 0, 1) := by decide +kernel
theorem dX12_know_1 : decode cX12_know 1 = .ok (.getfield 63, 3) := by decide +kernel
theorem dX12_know_4 : decode cX12_know 4 = .ok (.iload_n 1, 1) := by decide +kernel
theorem dX12_know_5 : decode cX12_know 5 = .ok (.if_icmp .ne 15, 3) := by decide +kernel
theorem dX12_know_8 : decode cX12_know 8 = .ok (.aload_n 0, 1) := by decide +kernel
theorem dX12_know_9 : decode cX12_know 9 = .ok (.getfield 67, 3) := by decide +kernel
theorem dX12_know_12 : decode cX12_know 12 = .ok (.aload_n 0, 1) := by decide +kernel
theorem dX12_know_13 : decode cX12_know 13 = .ok (.getfield 218, 3) := by decide +kernel
theorem dX12_know_16 : decode cX12_know 16 = .ok (.if_icmp .ne 4, 3) := by decide +kernel
theorem dX12_know_19 : decode cX12_know 19 = .ok (.return_, 1) := by decide +kernel
theorem dX12_know_20 : decode cX12_know 20 = .ok (.aload_n 0, 1) := by decide +kernel
theorem dX12_know_21 : decode cX12_know 21 = .ok (.iload_n 1, 1) := by decide +kernel
theorem dX12_know_22 : decode cX12_know 22 = .ok (.putfield 63, 3) := by decide +kernel
theorem dX12_know_25 : decode cX12_know 25 = .ok (.aload_n 0, 1) := by decide +kernel
theorem dX12_know_26 : decode cX12_know 26 = .ok (.aload_n 0, 1) := by decide +kernel
theorem dX12_know_27 : decode cX12_know 27 = .ok (.getfield 218, 3) := by decide +kernel
theorem dX12_know_30 : decode cX12_know 30 = .ok (.putfield 67, 3) := by decide +kernel
theorem dX12_know_33 : decode cX12_know 33 = .ok (.aload_n 0, 1) := by decide +kernel
theorem dX12_know_34 : decode cX12_know 34 = .ok (.iconst 0, 1) := by decide +kernel
theorem dX12_know_35 : decode cX12_know 35 = .ok (.putfield 233, 3) := by decide +kernel
theorem dX12_know_38 : decode cX12_know 38 = .ok (.iconst 0, 1) := by decide +kernel
theorem dX12_know_39 : decode cX12_know 39 = .ok (.istore_n 2, 1) := by decide +kernel
theorem dX12_know_40 : decode cX12_know 40 = .ok (.iload_n 2, 1) := by decide +kernel
theorem dX12_know_41 : decode cX12_know 41 = .ok (.bipush 120, 2) := by decide +kernel
theorem dX12_know_43 : decode cX12_know 43 = .ok (.if_icmp .ge 16, 3) := by decide +kernel
theorem dX12_know_46 : decode cX12_know 46 = .ok (.aload_n 0, 1) := by decide +kernel
theorem dX12_know_47 : decode cX12_know 47 = .ok (.getfield 56, 3) := by decide +kernel
theorem dX12_know_50 : decode cX12_know 50 = .ok (.iload_n 2, 1) := by decide +kernel
theorem dX12_know_51 : decode cX12_know 51 = .ok (.iconst 0, 1) := by decide +kernel
theorem dX12_know_52 : decode cX12_know 52 = .ok (.iastore, 1) := by decide +kernel
theorem dX12_know_53 : decode cX12_know 53 = .ok (.iinc 2 1, 3) := by decide +kernel
theorem dX12_know_56 : decode cX12_know 56 = .ok (.goto (-16), 3) := by decide +kernel
theorem dX12_know_59 : decode cX12_know 59 = .ok (.iconst 0, 1) := by decide +kernel
theorem dX12_know_60 : decode cX12_know 60 = .ok (.istore_n 2, 1) := by decide +kernel
theorem dX12_know_61 : decode cX12_know 61 = .ok (.iload_n 2, 1) := by decide +kernel
theorem dX12_know_62 : decode cX12_know 62 = .ok (.sipush 14400, 3) := by decide +kernel
theorem dX12_know_65 : decode cX12_know 65 = .ok (.if_icmp .ge 16, 3) := by decide +kernel
theorem dX12_know_68 : decode cX12_know 68 = .ok (.aload_n 0, 1) := by decide +kernel
theorem dX12_know_69 : decode cX12_know 69 = .ok (.getfield 59, 3) := by decide +kernel
theorem dX12_know_72 : decode cX12_know 72 = .ok (.iload_n 2, 1) := by decide +kernel
theorem dX12_know_73 : decode cX12_know 73 = .ok (.iconst 0, 1) := by decide +kernel
theorem dX12_know_74 : decode cX12_know 74 = .ok (.bastore, 1) := by decide +kernel
theorem dX12_know_75 : decode cX12_know 75 = .ok (.iinc 2 1, 3) := by decide +kernel
theorem dX12_know_78 : decode cX12_know 78 = .ok (.goto (-17), 3) := by decide +kernel
theorem dX12_know_81 : decode cX12_know 81 = .ok (.iconst 0, 1) := by decide +kernel
theorem dX12_know_82 : decode cX12_know 82 = .ok (.istore_n 2, 1) := by decide +kernel
theorem dX12_know_83 : decode cX12_know 83 = .ok (.iload_n 2, 1) := by decide +kernel
theorem dX12_know_84 : decode cX12_know 84 = .ok (.aload_n 0, 1) := by decide +kernel
theorem dX12_know_85 : decode cX12_know 85 = .ok (.getfield 227, 3) := by decide +kernel
theorem dX12_know_88 : decode cX12_know 88 = .ok (.if_icmp .ge 64, 3) := by decide +kernel
theorem dX12_know_91 : decode cX12_know 91 = .ok (.aload_n 0, 1) := by decide +kernel
theorem dX12_know_92 : decode cX12_know 92 = .ok (.getfield 56, 3) := by decide +kernel
theorem dX12_know_95 : decode cX12_know 95 = .ok (.aload_n 0, 1) := by decide +kernel
theorem dX12_know_96 : decode cX12_know 96 = .ok (.getfield 32, 3) := by decide +kernel
theorem dX12_know_99 : decode cX12_know 99 = .ok (.iload_n 2, 1) := by decide +kernel
theorem dX12_know_100 : decode cX12_know 100 = .ok (.iaload, 1) := by decide +kernel
theorem dX12_know_101 : decode cX12_know 101 = .ok (.aload_n 0, 1) := by decide +kernel
theorem dX12_know_102 : decode cX12_know 102 = .ok (.getfield 38, 3) := by decide +kernel
theorem dX12_know_105 : decode cX12_know 105 = .ok (.iload_n 2, 1) := by decide +kernel
theorem dX12_know_106 : decode cX12_know 106 = .ok (.iaload, 1) := by decide +kernel
theorem dX12_know_107 : decode cX12_know 107 = .ok (.iload_n 1, 1) := by decide +kernel
theorem dX12_know_108 : decode cX12_know 108 = .ok (.if_icmp .gt 26, 3) := by decide +kernel
theorem dX12_know_111 : decode cX12_know 111 = .ok (.aload_n 0, 1) := by decide +kernel
theorem dX12_know_112 : decode cX12_know 112 = .ok (.getfield 56, 3) := by decide +kernel
theorem dX12_know_115 : decode cX12_know 115 = .ok (.aload_n 0, 1) := by decide +kernel
theorem dX12_know_116 : decode cX12_know 116 = .ok (.getfield 32, 3) := by decide +kernel
theorem dX12_know_119 : decode cX12_know 119 = .ok (.iload_n 2, 1) := by decide +kernel
theorem dX12_know_120 : decode cX12_know 120 = .ok (.iaload, 1) := by decide +kernel
theorem dX12_know_121 : decode cX12_know 121 = .ok (.iaload, 1) := by decide +kernel
theorem dX12_know_122 : decode cX12_know 122 = .ok (.iconst 1, 1) := by decide +kernel
theorem dX12_know_123 : decode cX12_know 123 = .ok (.aload_n 0, 1) := by decide +kernel
theorem dX12_know_124 : decode cX12_know 124 = .ok (.getfield 35, 3) := by decide +kernel
theorem dX12_know_127 : decode cX12_know 127 = .ok (.iload_n 2, 1) := by decide +kernel
theorem dX12_know_128 : decode cX12_know 128 = .ok (.iaload, 1) := by decide +kernel
theorem dX12_know_129 : decode cX12_know 129 = .ok (.ishl, 1) := by decide +kernel
theorem dX12_know_130 : decode cX12_know 130 = .ok (.ior, 1) := by decide +kernel
theorem dX12_know_131 : decode cX12_know 131 = .ok (.goto 14, 3) := by decide +kernel
theorem dX12_know_134 : decode cX12_know 134 = .ok (.aload_n 0, 1) := by decide +kernel
theorem dX12_know_135 : decode cX12_know 135 = .ok (.getfield 56, 3) := by decide +kernel
theorem dX12_know_138 : decode cX12_know 138 = .ok (.aload_n 0, 1) := by decide +kernel
theorem dX12_know_139 : decode cX12_know 139 = .ok (.getfield 32, 3) := by decide +kernel
theorem dX12_know_142 : decode cX12_know 142 = .ok (.iload_n 2, 1) := by decide +kernel
theorem dX12_know_143 : decode cX12_know 143 = .ok (.iaload, 1) := by decide +kernel
theorem dX12_know_144 : decode cX12_know 144 = .ok (.iaload, 1) := by decide +kernel
theorem dX12_know_145 : decode cX12_know 145 = .ok (.iastore, 1) := by decide +kernel
theorem dX12_know_146 : decode cX12_know 146 = .ok (.iinc 2 1, 3) := by decide +kernel
theorem dX12_know_149 : decode cX12_know 149 = .ok (.goto (-66), 3) := by decide +kernel
theorem dX12_know_152 : decode cX12_know 152 = .ok (.iconst 0, 1) := by decide +kernel
theorem dX12_know_153 : decode cX12_know 153 = .ok (.istore_n 2, 1) := by decide +kernel
theorem dX12_know_154 : decode cX12_know 154 = .ok (.iload_n 2, 1) := by decide +kernel
theorem dX12_know_155 : decode cX12_know 155 = .ok (.aload_n 0, 1) := by decide +kernel
theorem dX12_know_156 : decode cX12_know 156 = .ok (.getfield 224, 3) := by decide +kernel
theorem dX12_know_159 : decode cX12_know 159 = .ok (.if_icmp .ge 41, 3) := by decide +kernel
theorem dX12_know_162 : decode cX12_know 162 = .ok (.aload_n 0, 1) := by decide +kernel
theorem dX12_know_163 : decode cX12_know 163 = .ok (.getfield 29, 3) := by decide +kernel
theorem dX12_know_166 : decode cX12_know 166 = .ok (.iload_n 2, 1) := by decide +kernel
theorem dX12_know_167 : decode cX12_know 167 = .ok (.iaload, 1) := by decide +kernel
theorem dX12_know_168 : decode cX12_know 168 = .ok (.iload_n 1, 1) := by decide +kernel
theorem dX12_know_169 : decode cX12_know 169 = .ok (.if_icmp .gt 25, 3) := by decide +kernel
theorem dX12_know_172 : decode cX12_know 172 = .ok (.aload_n 0, 1) := by decide +kernel
theorem dX12_know_173 : decode cX12_know 173 = .ok (.getfield 59, 3) := by decide +kernel
theorem dX12_know_176 : decode cX12_know 176 = .ok (.bipush 120, 2) := by decide +kernel
theorem dX12_know_178 : decode cX12_know 178 = .ok (.aload_n 0, 1) := by decide +kernel
theorem dX12_know_179 : decode cX12_know 179 = .ok (.getfield 23, 3) := by decide +kernel
theorem dX12_know_182 : decode cX12_know 182 = .ok (.iload_n 2, 1) := by decide +kernel
theorem dX12_know_183 : decode cX12_know 183 = .ok (.iaload, 1) := by decide +kernel
theorem dX12_know_184 : decode cX12_know 184 = .ok (.imul, 1) := by decide +kernel
theorem dX12_know_185 : decode cX12_know 185 = .ok (.aload_n 0, 1) := by decide +kernel
theorem dX12_know_186 : decode cX12_know 186 = .ok (.getfield 26, 3) := by decide +kernel
theorem dX12_know_189 : decode cX12_know 189 = .ok (.iload_n 2, 1) := by decide +kernel
theorem dX12_know_190 : decode cX12_know 190 = .ok (.iaload, 1) := by decide +kernel
theorem dX12_know_191 : decode cX12_know 191 = .ok (.iadd, 1) := by decide +kernel
theorem dX12_know_192 : decode cX12_know 192 = .ok (.iconst 1, 1) := by decide +kernel
theorem dX12_know_193 : decode cX12_know 193 = .ok (.bastore, 1) := by decide +kernel
theorem dX12_know_194 : decode cX12_know 194 = .ok (.iinc 2 1, 3) := by decide +kernel
theorem dX12_know_197 : decode cX12_know 197 = .ok (.goto (-43), 3) := by decide +kernel
theorem dX12_know_200 : decode cX12_know 200 = .ok (.return_, 1) := by decide +kernel
def K_X12_know_20 (G : xG) (l : Launch) (d : Nat) (P : xMem → Prop) (v1 : Int) (μ : xMem) : Prop := RR G l d 0 0 false mX12_know (qV P) 20 [some (xr G 74), some (xi v1), none] [] LAY μ 0 0
def K_X12_know_40 (G : xG) (l : Launch) (d : Nat) (P : xMem → Prop) (v1 v2 : Int) (μ : xMem) : Prop := RR G l d 0 0 false mX12_know (qV P) 40 [some (xr G 74), some (xi v1), some (xi v2)] [] LAY μ 0 0
def K_X12_know_61 (G : xG) (l : Launch) (d : Nat) (P : xMem → Prop) (v1 v2 : Int) (μ : xMem) : Prop := RR G l d 0 0 false mX12_know (qV P) 61 [some (xr G 74), some (xi v1), some (xi v2)] [] LAY μ 0 0
def K_X12_know_83 (G : xG) (l : Launch) (d : Nat) (P : xMem → Prop) (v1 v2 : Int) (μ : xMem) : Prop := RR G l d 0 0 false mX12_know (qV P) 83 [some (xr G 74), some (xi v1), some (xi v2)] [] LAY μ 0 0
def K_X12_know_154 (G : xG) (l : Launch) (d : Nat) (P : xMem → Prop) (v1 v2 : Int) (μ : xMem) : Prop := RR G l d 0 0 false mX12_know (qV P) 154 [some (xr G 74), some (xi v1), some (xi v2)] [] LAY μ 0 0
set_option maxRecDepth 20000 in
theorem E_X12_know {G : xG} {l : Launch} {d : Nat} {P : xMem → Prop} {v1 : Int} {μ : xMem} (h : (iR (μ 74 26) ∧ iR v1 ∧ ((μ 74 26) ≠ v1 → K_X12_know_20 G l (d + 1) P v1 μ) ∧ ((μ 74 26) = v1 → (iR (μ 74 27) ∧ iR (μ 74 5) ∧ ((μ 74 27) ≠ (μ 74 5) → K_X12_know_20 G l (d + 1) P v1 μ) ∧ ((μ 74 27) = (μ 74 5) → P μ))))) : CV G l (d + 1) mX12_know [xr G 74, xi v1] μ P := by
  refine CC.ofRR (ll := [some (xr G 74), some (xi v1), none]) (by decide +kernel) (Nat.le_of_ble_eq_true rfl) rfl (fun h => by cases h) ?_
  refine xr_aload_n dX12_know_0 rfl ?_
  refine xr_getI' (v := μ 74 26) dX12_know_1 fl_X12_63 L_74 rfl rfl rfl ?_
  refine xr_iload_n dX12_know_4 rfl ?_
  obtain ⟨q1, q2, hT3, hF4⟩ := h
  refine xr_icmp_ne (tgt := 20) dX12_know_5 (by decide) q1 q2 (fun c => ?_) (fun c => ?_)
  · have h := hT3 c
    exact h
  · have h := hF4 c
    refine xr_aload_n dX12_know_8 rfl ?_
    refine xr_getI' (v := μ 74 27) dX12_know_9 fl_X12_67 L_74 rfl rfl rfl ?_
    refine xr_aload_n dX12_know_12 rfl ?_
    refine xr_getI' (v := μ 74 5) dX12_know_13 fl_X12_218 L_74 rfl rfl rfl ?_
    obtain ⟨q5, q6, hT7, hF8⟩ := h
    refine xr_icmp_ne (tgt := 20) dX12_know_16 (by decide) q5 q6 (fun c => ?_) (fun c => ?_)
    · have h := hT7 c
      exact h
    · have h := hF8 c
      exact xr_ret dX12_know_19 rfl ⟨rfl, rfl, h⟩
set_option maxRecDepth 20000 in
theorem B_X12_know_20 {G : xG} {l : Launch} {d : Nat} {P : xMem → Prop} {v1 : Int} {μ : xMem} (h : K_X12_know_40 G l (d + 1) P v1 0 (st2 (st2 (st2 μ 74 26 v1) 74 27 (μ 74 5)) 74 56 0)) : K_X12_know_20 G l (d + 1) P v1 μ := by
  unfold K_X12_know_20
  refine xr_aload_n dX12_know_20 rfl ?_
  refine xr_iload_n dX12_know_21 rfl ?_
  refine xr_putI dX12_know_22 fp_X12_63 L_74 rfl rfl ⟨rfl, rfl⟩ ?_
  refine xr_aload_n dX12_know_25 rfl ?_
  refine xr_aload_n dX12_know_26 rfl ?_
  refine xr_getI' (v := μ 74 5) dX12_know_27 fl_X12_218 L_74 rfl rfl (by simp [st2, cpy]) ?_
  refine xr_putI dX12_know_30 fp_X12_67 L_74 rfl rfl ⟨rfl, rfl⟩ ?_
  refine xr_aload_n dX12_know_33 rfl ?_
  refine xr_iconst dX12_know_34 ?_
  refine xr_putI dX12_know_35 fp_X12_233 L_74 rfl rfl (x_nz (by decide)) ?_
  refine xr_iconst dX12_know_38 ?_
  refine xr_istore_n' (ll' := [some (xr G 74), some (xi v1), some (xi 0)]) dX12_know_39 (by decide) rfl rfl ?_
  exact h
set_option maxRecDepth 20000 in
theorem B_X12_know_40 {G : xG} {l : Launch} {d : Nat} {P : xMem → Prop} {v1 v2 : Int} {μ : xMem} (h : (iR v2 ∧ (120 ≤ v2 → K_X12_know_61 G l (d + 1) P v1 0 μ) ∧ (v2 < 120 → ((0 ≤ v2 ∧ v2 < 120) ∧ K_X12_know_40 G l (d + 1) P v1 (v2 + 1) (st2 μ 90 v2 0))))) : K_X12_know_40 G l (d + 1) P v1 v2 μ := by
  unfold K_X12_know_40
  refine xr_iload_n dX12_know_40 rfl ?_
  refine xr_bipush dX12_know_41 (by decide) ?_
  obtain ⟨q1, hT2, hF3⟩ := h
  refine xr_icmp_ge (tgt := 59) dX12_know_43 (by decide) q1 (by decide) (fun c => ?_) (fun c => ?_)
  · have h := hT2 c
    refine xr_iconst dX12_know_59 ?_
    refine xr_istore_n' (ll' := [some (xr G 74), some (xi v1), some (xi 0)]) dX12_know_60 (by decide) rfl rfl ?_
    exact h
  · have h := hF3 (Int.not_le.mp c)
    refine xr_aload_n dX12_know_46 rfl ?_
    refine xr_getR dX12_know_47 fl_X12_56 L_74 rfl ?_
    refine xr_iload_n dX12_know_50 rfl ?_
    refine xr_iconst dX12_know_51 ?_
    obtain ⟨q4, h⟩ := h
    refine xr_iastore dX12_know_52 L_90 rfl (by decide) q4 ?_
    refine xr_iinc' (ll' := [some (xr G 74), some (xi v1), some (xi (v2 + 1))]) dX12_know_53 rfl (by decide) rfl rfl ?_
    refine xr_goto (tgt := 40) dX12_know_56 (by decide) ?_
    exact h
set_option maxRecDepth 20000 in
theorem B_X12_know_61 {G : xG} {l : Launch} {d : Nat} {P : xMem → Prop} {v1 v2 : Int} {μ : xMem} (h : (iR v2 ∧ (14400 ≤ v2 → K_X12_know_83 G l (d + 1) P v1 0 μ) ∧ (v2 < 14400 → ((0 ≤ v2 ∧ v2 < 14400) ∧ K_X12_know_61 G l (d + 1) P v1 (v2 + 1) (st2 μ 91 v2 0))))) : K_X12_know_61 G l (d + 1) P v1 v2 μ := by
  unfold K_X12_know_61
  refine xr_iload_n dX12_know_61 rfl ?_
  refine xr_sipush dX12_know_62 (by decide) ?_
  obtain ⟨q1, hT2, hF3⟩ := h
  refine xr_icmp_ge (tgt := 81) dX12_know_65 (by decide) q1 (by decide) (fun c => ?_) (fun c => ?_)
  · have h := hT2 c
    refine xr_iconst dX12_know_81 ?_
    refine xr_istore_n' (ll' := [some (xr G 74), some (xi v1), some (xi 0)]) dX12_know_82 (by decide) rfl rfl ?_
    exact h
  · have h := hF3 (Int.not_le.mp c)
    refine xr_aload_n dX12_know_68 rfl ?_
    refine xr_getR dX12_know_69 fl_X12_59 L_74 rfl ?_
    refine xr_iload_n dX12_know_72 rfl ?_
    refine xr_iconst dX12_know_73 ?_
    obtain ⟨q4, h⟩ := h
    refine xr_zastore dX12_know_74 L_91 rfl (by decide) q4 (by decide) ?_
    refine xr_iinc' (ll' := [some (xr G 74), some (xi v1), some (xi (v2 + 1))]) dX12_know_75 rfl (by decide) rfl rfl ?_
    refine xr_goto (tgt := 61) dX12_know_78 (by decide) ?_
    exact h
set_option maxRecDepth 20000 in
theorem B_X12_know_83 {G : xG} {l : Launch} {d : Nat} {P : xMem → Prop} {v1 v2 : Int} {μ : xMem} (h : (iR v2 ∧ iR (μ 74 22) ∧ ((μ 74 22) ≤ v2 → K_X12_know_154 G l (d + 1) P v1 0 μ) ∧ (v2 < (μ 74 22) → ((0 ≤ v2 ∧ v2 < 120) ∧ (iR (μ 84 v2) ∧ iR v1 ∧ (v1 < (μ 84 v2) → ((0 ≤ μ 82 v2 ∧ μ 82 v2 < 120) ∧ K_X12_know_83 G l (d + 1) P v1 (v2 + 1) (st2 μ 90 (μ 82 v2) (μ 90 (μ 82 v2))))) ∧ ((μ 84 v2) ≤ v1 → ((0 ≤ μ 82 v2 ∧ μ 82 v2 < 120) ∧ K_X12_know_83 G l (d + 1) P v1 (v2 + 1) (st2 μ 90 (μ 82 v2) (jor (μ 90 (μ 82 v2)) (jshl 1 (μ 83 v2))))))))))) : K_X12_know_83 G l (d + 1) P v1 v2 μ := by
  unfold K_X12_know_83
  refine xr_iload_n dX12_know_83 rfl ?_
  refine xr_aload_n dX12_know_84 rfl ?_
  refine xr_getI' (v := μ 74 22) dX12_know_85 fl_X12_227 L_74 rfl rfl rfl ?_
  obtain ⟨q1, q2, hT3, hF4⟩ := h
  refine xr_icmp_ge (tgt := 152) dX12_know_88 (by decide) q1 q2 (fun c => ?_) (fun c => ?_)
  · have h := hT3 c
    refine xr_iconst dX12_know_152 ?_
    refine xr_istore_n' (ll' := [some (xr G 74), some (xi v1), some (xi 0)]) dX12_know_153 (by decide) rfl rfl ?_
    exact h
  · have h := hF4 (Int.not_le.mp c)
    refine xr_aload_n dX12_know_91 rfl ?_
    refine xr_getR dX12_know_92 fl_X12_56 L_74 rfl ?_
    refine xr_aload_n dX12_know_95 rfl ?_
    refine xr_getR dX12_know_96 fl_X12_32 L_74 rfl ?_
    refine xr_iload_n dX12_know_99 rfl ?_
    obtain ⟨q5, h⟩ := h
    refine xr_iaload' (v := μ 82 v2) dX12_know_100 L_82 rfl (by decide) q5 rfl ?_
    refine xr_aload_n dX12_know_101 rfl ?_
    refine xr_getR dX12_know_102 fl_X12_38 L_74 rfl ?_
    refine xr_iload_n dX12_know_105 rfl ?_
    refine xr_iaload' (v := μ 84 v2) dX12_know_106 L_84 rfl (by decide) q5 rfl ?_
    refine xr_iload_n dX12_know_107 rfl ?_
    obtain ⟨q6, q7, hT8, hF9⟩ := h
    refine xr_icmp_gt (tgt := 134) dX12_know_108 (by decide) q6 q7 (fun c => ?_) (fun c => ?_)
    · have h := hT8 c
      refine xr_aload_n dX12_know_134 rfl ?_
      refine xr_getR dX12_know_135 fl_X12_56 L_74 rfl ?_
      refine xr_aload_n dX12_know_138 rfl ?_
      refine xr_getR dX12_know_139 fl_X12_32 L_74 rfl ?_
      refine xr_iload_n dX12_know_142 rfl ?_
      refine xr_iaload' (v := μ 82 v2) dX12_know_143 L_82 rfl (by decide) q5 rfl ?_
      obtain ⟨q10, h⟩ := h
      refine xr_iaload' (v := μ 90 (μ 82 v2)) dX12_know_144 L_90 rfl (by decide) q10 rfl ?_
      refine xr_iastore dX12_know_145 L_90 rfl (by decide) q10 ?_
      refine xr_iinc' (ll' := [some (xr G 74), some (xi v1), some (xi (v2 + 1))]) dX12_know_146 rfl (by decide) rfl rfl ?_
      refine xr_goto (tgt := 83) dX12_know_149 (by decide) ?_
      exact h
    · have h := hF9 (Int.not_lt.mp c)
      refine xr_aload_n dX12_know_111 rfl ?_
      refine xr_getR dX12_know_112 fl_X12_56 L_74 rfl ?_
      refine xr_aload_n dX12_know_115 rfl ?_
      refine xr_getR dX12_know_116 fl_X12_32 L_74 rfl ?_
      refine xr_iload_n dX12_know_119 rfl ?_
      refine xr_iaload' (v := μ 82 v2) dX12_know_120 L_82 rfl (by decide) q5 rfl ?_
      obtain ⟨q11, h⟩ := h
      refine xr_iaload' (v := μ 90 (μ 82 v2)) dX12_know_121 L_90 rfl (by decide) q11 rfl ?_
      refine xr_iconst dX12_know_122 ?_
      refine xr_aload_n dX12_know_123 rfl ?_
      refine xr_getR dX12_know_124 fl_X12_35 L_74 rfl ?_
      refine xr_iload_n dX12_know_127 rfl ?_
      refine xr_iaload' (v := μ 83 v2) dX12_know_128 L_83 rfl (by decide) q5 rfl ?_
      refine xr_ishl dX12_know_129 ?_
      refine xr_ior dX12_know_130 ?_
      refine xr_goto (tgt := 145) dX12_know_131 (by decide) ?_
      refine xr_iastore dX12_know_145 L_90 rfl (by decide) q11 ?_
      refine xr_iinc' (ll' := [some (xr G 74), some (xi v1), some (xi (v2 + 1))]) dX12_know_146 rfl (by decide) rfl rfl ?_
      refine xr_goto (tgt := 83) dX12_know_149 (by decide) ?_
      exact h
set_option maxRecDepth 20000 in
theorem B_X12_know_154 {G : xG} {l : Launch} {d : Nat} {P : xMem → Prop} {v1 v2 : Int} {μ : xMem} (h : (iR v2 ∧ iR (μ 74 21) ∧ ((μ 74 21) ≤ v2 → P μ) ∧ (v2 < (μ 74 21) → ((0 ≤ v2 ∧ v2 < 240) ∧ (iR (μ 81 v2) ∧ iR v1 ∧ (v1 < (μ 81 v2) → K_X12_know_154 G l (d + 1) P v1 (v2 + 1) μ) ∧ ((μ 81 v2) ≤ v1 → ((0 ≤ (120 * (μ 79 v2)) + (μ 80 v2) ∧ (120 * (μ 79 v2)) + (μ 80 v2) < 14400) ∧ K_X12_know_154 G l (d + 1) P v1 (v2 + 1) (st2 μ 91 ((120 * (μ 79 v2)) + (μ 80 v2)) 1)))))))) : K_X12_know_154 G l (d + 1) P v1 v2 μ := by
  unfold K_X12_know_154
  refine xr_iload_n dX12_know_154 rfl ?_
  refine xr_aload_n dX12_know_155 rfl ?_
  refine xr_getI' (v := μ 74 21) dX12_know_156 fl_X12_224 L_74 rfl rfl rfl ?_
  obtain ⟨q1, q2, hT3, hF4⟩ := h
  refine xr_icmp_ge (tgt := 200) dX12_know_159 (by decide) q1 q2 (fun c => ?_) (fun c => ?_)
  · have h := hT3 c
    exact xr_ret dX12_know_200 rfl ⟨rfl, rfl, h⟩
  · have h := hF4 (Int.not_le.mp c)
    refine xr_aload_n dX12_know_162 rfl ?_
    refine xr_getR dX12_know_163 fl_X12_29 L_74 rfl ?_
    refine xr_iload_n dX12_know_166 rfl ?_
    obtain ⟨q5, h⟩ := h
    refine xr_iaload' (v := μ 81 v2) dX12_know_167 L_81 rfl (by decide) q5 rfl ?_
    refine xr_iload_n dX12_know_168 rfl ?_
    obtain ⟨q6, q7, hT8, hF9⟩ := h
    refine xr_icmp_gt (tgt := 194) dX12_know_169 (by decide) q6 q7 (fun c => ?_) (fun c => ?_)
    · have h := hT8 c
      refine xr_iinc' (ll' := [some (xr G 74), some (xi v1), some (xi (v2 + 1))]) dX12_know_194 rfl (by decide) rfl rfl ?_
      refine xr_goto (tgt := 154) dX12_know_197 (by decide) ?_
      exact h
    · have h := hF9 (Int.not_lt.mp c)
      refine xr_aload_n dX12_know_172 rfl ?_
      refine xr_getR dX12_know_173 fl_X12_59 L_74 rfl ?_
      refine xr_bipush dX12_know_176 (by decide) ?_
      refine xr_aload_n dX12_know_178 rfl ?_
      refine xr_getR dX12_know_179 fl_X12_23 L_74 rfl ?_
      refine xr_iload_n dX12_know_182 rfl ?_
      refine xr_iaload' (v := μ 79 v2) dX12_know_183 L_79 rfl (by decide) q5 rfl ?_
      refine xr_imul dX12_know_184 ?_
      refine xr_aload_n dX12_know_185 rfl ?_
      refine xr_getR dX12_know_186 fl_X12_26 L_74 rfl ?_
      refine xr_iload_n dX12_know_189 rfl ?_
      refine xr_iaload' (v := μ 80 v2) dX12_know_190 L_80 rfl (by decide) q5 rfl ?_
      refine xr_iadd dX12_know_191 ?_
      refine xr_iconst dX12_know_192 ?_
      obtain ⟨q10, h⟩ := h
      refine xr_zastore dX12_know_193 L_91 rfl (by decide) q10 (by decide) ?_
      refine xr_iinc' (ll' := [some (xr G 74), some (xi v1), some (xi (v2 + 1))]) dX12_know_194 rfl (by decide) rfl rfl ?_
      refine xr_goto (tgt := 154) dX12_know_197 (by decide) ?_
      exact h
theorem dX12_isKnown_0 : decode cX12_isKnown 0 = .ok (.aload_n 0, 1) := by decide +kernel
theorem dX12_isKnown_1 : decode cX12_isKnown 1 = .ok (.iload_n 1, 1) := by decide +kernel
theorem dX12_isKnown_2 : decode cX12_isKnown 2 = .ok (.invokevirtual 221, 3) := by decide +kernel
theorem dX12_isKnown_5 : decode cX12_isKnown 5 = .ok (.ifCond .eq 17, 3) := by decide +kernel
theorem dX12_isKnown_8 : decode cX12_isKnown 8 = .ok (.aload_n 0, 1) := by decide +kernel
theorem dX12_isKnown_9 : decode cX12_isKnown 9 = .ok (.getfield 20, 3) := by decide +kernel
theorem dX12_isKnown_12 : decode cX12_isKnown 12 = .ok (.iload_n 1, 1) := by decide +kernel
theorem dX12_isKnown_13 : decode cX12_isKnown 13 = .ok (.iaload, 1) := by decide +kernel
theorem dX12_isKnown_14 : decode cX12_isKnown 14 = .ok (.iload_n 2, 1) := by decide +kernel
theorem dX12_isKnown_15 : decode cX12_isKnown 15 = .ok (.if_icmp .gt 7, 3) := by decide +kernel
theorem dX12_isKnown_18 : decode cX12_isKnown 18 = .ok (.iconst 1, 1) := by decide +kernel
theorem dX12_isKnown_19 : decode cX12_isKnown 19 = .ok (.goto 4, 3) := by decide +kernel
theorem dX12_isKnown_22 : decode cX12_isKnown 22 = .ok (.iconst 0, 1) := by decide +kernel
theorem dX12_isKnown_23 : decode cX12_isKnown 23 = .ok (.ireturn, 1) := by decide +kernel
set_option maxRecDepth 20000 in
theorem E_X12_isKnown {G : xG} {l : Launch} {d : Nat} {P : Int → xMem → Prop} {v1 v2 : Int} {μ : xMem} (h : CI G l d mX12_isWord [xr G 74, xi v1] μ (fun r1 m2 => ((r1 = 0 → P 0 m2) ∧ (r1 ≠ 0 → ((0 ≤ v1 ∧ v1 < 120) ∧ (iR (m2 78 v1) ∧ iR v2 ∧ (v2 < (m2 78 v1) → P 0 m2) ∧ ((m2 78 v1) ≤ v2 → P 1 m2))))))) : CI G l (d + 1) mX12_isKnown [xr G 74, xi v1, xi v2] μ P := by
  refine CC.ofRR (ll := [some (xr G 74), some (xi v1), some (xi v2)]) (by decide +kernel) (Nat.le_of_ble_eq_true rfl) rfl (fun h => by cases h) ?_
  refine xr_aload_n dX12_isKnown_0 rfl ?_
  refine xr_iload_n dX12_isKnown_1 rfl ?_
  refine xr_cvI (As := [xi v1]) dX12_isKnown_2 mi_X12_isWord ml_X12_221 se_X12_isWord L_74 rfl rfl rfl (Nat.le_of_ble_eq_true rfl) h (fun r1 m2 hr1 h => ?_)
  obtain ⟨hT3, hF4⟩ := h
  refine xr_if_eq (tgt := 22) dX12_isKnown_5 (by decide) hr1  (fun c => ?_) (fun c => ?_)
  · have h := hT3 c
    refine xr_iconst dX12_isKnown_22 ?_
    exact xr_zret dX12_isKnown_23 rfl (x_nz (by decide)).1 ⟨rfl, _, rfl, x_01 (by decide), h⟩
  · have h := hF4 c
    refine xr_aload_n dX12_isKnown_8 rfl ?_
    refine xr_getR dX12_isKnown_9 fl_X12_20 L_74 rfl ?_
    refine xr_iload_n dX12_isKnown_12 rfl ?_
    obtain ⟨q5, h⟩ := h
    refine xr_iaload' (v := m2 78 v1) dX12_isKnown_13 L_78 rfl (by decide) q5 rfl ?_
    refine xr_iload_n dX12_isKnown_14 rfl ?_
    obtain ⟨q6, q7, hT8, hF9⟩ := h
    refine xr_icmp_gt (tgt := 22) dX12_isKnown_15 (by decide) q6 q7 (fun c => ?_) (fun c => ?_)
    · have h := hT8 c
      refine xr_iconst dX12_isKnown_22 ?_
      exact xr_zret dX12_isKnown_23 rfl (x_nz (by decide)).1 ⟨rfl, _, rfl, x_01 (by decide), h⟩
    · have h := hF9 (Int.not_lt.mp c)
      refine xr_iconst dX12_isKnown_18 ?_
      refine xr_goto (tgt := 23) dX12_isKnown_19 (by decide) ?_
      exact xr_zret dX12_isKnown_23 rfl (x_nz (by decide)).1 ⟨rfl, _, rfl, x_01 (by decide), h⟩
theorem dX12_at_0 : decode cX12_at 0 = .ok (.iload_n 0, 1) := by decide +kernel
theorem dX12_at_1 : decode cX12_at 1 = .ok (.bipush 8, 2) := by decide +kernel
theorem dX12_at_3 : decode cX12_at 3 = .ok (.imul, 1) := by decide +kernel
theorem dX12_at_4 : decode cX12_at 4 = .ok (.iload_n 0, 1) := by decide +kernel
theorem dX12_at_5 : decode cX12_at 5 = .ok (.iload_n 0, 1) := by decide +kernel
theorem dX12_at_6 : decode cX12_at 6 = .ok (.iconst 1, 1) := by decide +kernel
theorem dX12_at_7 : decode cX12_at 7 = .ok (.isub, 1) := by decide +kernel
theorem dX12_at_8 : decode cX12_at 8 = .ok (.imul, 1) := by decide +kernel
theorem dX12_at_9 : decode cX12_at 9 = .ok (.iconst 2, 1) := by decide +kernel
theorem dX12_at_10 : decode cX12_at 10 = .ok (.idiv, 1) := by decide +kernel
theorem dX12_at_11 : decode cX12_at 11 = .ok (.isub, 1) := by decide +kernel
theorem dX12_at_12 : decode cX12_at 12 = .ok (.iload_n 1, 1) := by decide +kernel
theorem dX12_at_13 : decode cX12_at 13 = .ok (.iadd, 1) := by decide +kernel
theorem dX12_at_14 : decode cX12_at 14 = .ok (.iload_n 0, 1) := by decide +kernel
theorem dX12_at_15 : decode cX12_at 15 = .ok (.isub, 1) := by decide +kernel
theorem dX12_at_16 : decode cX12_at 16 = .ok (.bipush 55, 2) := by decide +kernel
theorem dX12_at_18 : decode cX12_at 18 = .ok (.imul, 1) := by decide +kernel
theorem dX12_at_19 : decode cX12_at 19 = .ok (.iload_n 2, 1) := by decide +kernel
theorem dX12_at_20 : decode cX12_at 20 = .ok (.bipush 10, 2) := by decide +kernel
theorem dX12_at_22 : decode cX12_at 22 = .ok (.imul, 1) := by decide +kernel
theorem dX12_at_23 : decode cX12_at 23 = .ok (.iadd, 1) := by decide +kernel
theorem dX12_at_24 : decode cX12_at 24 = .ok (.iload_n 2, 1) := by decide +kernel
theorem dX12_at_25 : decode cX12_at 25 = .ok (.iload_n 2, 1) := by decide +kernel
theorem dX12_at_26 : decode cX12_at 26 = .ok (.iconst 1, 1) := by decide +kernel
theorem dX12_at_27 : decode cX12_at 27 = .ok (.isub, 1) := by decide +kernel
theorem dX12_at_28 : decode cX12_at 28 = .ok (.imul, 1) := by decide +kernel
theorem dX12_at_29 : decode cX12_at 29 = .ok (.iconst 2, 1) := by decide +kernel
theorem dX12_at_30 : decode cX12_at 30 = .ok (.idiv, 1) := by decide +kernel
theorem dX12_at_31 : decode cX12_at 31 = .ok (.isub, 1) := by decide +kernel
theorem dX12_at_32 : decode cX12_at 32 = .ok (.iload_n 3, 1) := by decide +kernel
theorem dX12_at_33 : decode cX12_at 33 = .ok (.iadd, 1) := by decide +kernel
theorem dX12_at_34 : decode cX12_at 34 = .ok (.iload_n 2, 1) := by decide +kernel
theorem dX12_at_35 : decode cX12_at 35 = .ok (.isub, 1) := by decide +kernel
theorem dX12_at_36 : decode cX12_at 36 = .ok (.iconst 1, 1) := by decide +kernel
theorem dX12_at_37 : decode cX12_at 37 = .ok (.isub, 1) := by decide +kernel
theorem dX12_at_38 : decode cX12_at 38 = .ok (.iconst 2, 1) := by decide +kernel
theorem dX12_at_39 : decode cX12_at 39 = .ok (.imul, 1) := by decide +kernel
theorem dX12_at_40 : decode cX12_at 40 = .ok (.iload 4, 2) := by decide +kernel
theorem dX12_at_42 : decode cX12_at 42 = .ok (.iadd, 1) := by decide +kernel
theorem dX12_at_43 : decode cX12_at 43 = .ok (.ireturn, 1) := by decide +kernel
set_option maxRecDepth 20000 in
theorem E_X12_at {G : xG} {l : Launch} {d : Nat} {P : Int → xMem → Prop} {v0 v1 v2 v3 v4 : Int} {μ : xMem} (h : ((0 ≤ v0 * (v0 - 1) ∧ v0 * (v0 - 1) < 2147483648) ∧ ((0 ≤ v2 * (v2 - 1) ∧ v2 * (v2 - 1) < 2147483648) ∧ (iR ((((((((((((v0 * 8) - ((v0 * (v0 - 1)) / 2)) + v1) - v0) * 55) + (v2 * 10)) - ((v2 * (v2 - 1)) / 2)) + v3) - v2) - 1) * 2) + v4) ∧ P ((((((((((((v0 * 8) - ((v0 * (v0 - 1)) / 2)) + v1) - v0) * 55) + (v2 * 10)) - ((v2 * (v2 - 1)) / 2)) + v3) - v2) - 1) * 2) + v4) μ)))) : CI G l (d + 1) mX12_at [xi v0, xi v1, xi v2, xi v3, xi v4] μ P := by
  refine CC.ofRR (ll := [some (xi v0), some (xi v1), some (xi v2), some (xi v3), some (xi v4)]) (by decide +kernel) (Nat.le_of_ble_eq_true rfl) rfl (fun h => by cases h) ?_
  refine xr_iload_n dX12_at_0 rfl ?_
  refine xr_bipush dX12_at_1 (by decide) ?_
  refine xr_imul dX12_at_3 ?_
  refine xr_iload_n dX12_at_4 rfl ?_
  refine xr_iload_n dX12_at_5 rfl ?_
  refine xr_iconst dX12_at_6 ?_
  refine xr_isub dX12_at_7 ?_
  refine xr_imul dX12_at_8 ?_
  refine xr_iconst dX12_at_9 ?_
  obtain ⟨q1, h⟩ := h
  refine xr_idiv dX12_at_10 q1 (by decide) ?_
  refine xr_isub dX12_at_11 ?_
  refine xr_iload_n dX12_at_12 rfl ?_
  refine xr_iadd dX12_at_13 ?_
  refine xr_iload_n dX12_at_14 rfl ?_
  refine xr_isub dX12_at_15 ?_
  refine xr_bipush dX12_at_16 (by decide) ?_
  refine xr_imul dX12_at_18 ?_
  refine xr_iload_n dX12_at_19 rfl ?_
  refine xr_bipush dX12_at_20 (by decide) ?_
  refine xr_imul dX12_at_22 ?_
  refine xr_iadd dX12_at_23 ?_
  refine xr_iload_n dX12_at_24 rfl ?_
  refine xr_iload_n dX12_at_25 rfl ?_
  refine xr_iconst dX12_at_26 ?_
  refine xr_isub dX12_at_27 ?_
  refine xr_imul dX12_at_28 ?_
  refine xr_iconst dX12_at_29 ?_
  obtain ⟨q2, h⟩ := h
  refine xr_idiv dX12_at_30 q2 (by decide) ?_
  refine xr_isub dX12_at_31 ?_
  refine xr_iload_n dX12_at_32 rfl ?_
  refine xr_iadd dX12_at_33 ?_
  refine xr_iload_n dX12_at_34 rfl ?_
  refine xr_isub dX12_at_35 ?_
  refine xr_iconst dX12_at_36 ?_
  refine xr_isub dX12_at_37 ?_
  refine xr_iconst dX12_at_38 ?_
  refine xr_imul dX12_at_39 ?_
  refine xr_iload dX12_at_40 rfl ?_
  refine xr_iadd dX12_at_42 ?_
  obtain ⟨q3, h⟩ := h
  exact xr_iret dX12_at_43 rfl ⟨rfl, _, rfl, q3, h⟩
end Blk34_bX12a
