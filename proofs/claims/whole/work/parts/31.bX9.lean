/-! blocks of the class's code, printed by program -/
section Blk31_bX9
theorem dX9_takeClue_0 : decode cX9_takeClue 0 = .ok (.aload_n 0, 1) := by decide +kernel
theorem dX9_takeClue_1 : decode cX9_takeClue 1 = .ok (.getfield 30, 3) := by decide +kernel
theorem dX9_takeClue_4 : decode cX9_takeClue 4 = .ok (.getfield 34, 3) := by decide +kernel
theorem dX9_takeClue_7 : decode cX9_takeClue 7 = .ok (.iload_n 3, 1) := by decide +kernel
theorem dX9_takeClue_8 : decode cX9_takeClue 8 = .ok (.invokevirtual 40, 3) := by decide +kernel
theorem dX9_takeClue_11 : decode cX9_takeClue 11 = .ok (.istore 4, 2) := by decide +kernel
theorem dX9_takeClue_13 : decode cX9_takeClue 13 = .ok (.aload_n 0, 1) := by decide +kernel
theorem dX9_takeClue_14 : decode cX9_takeClue 14 = .ok (.aload_n 0, 1) := by decide +kernel
theorem dX9_takeClue_15 : decode cX9_takeClue 15 = .ok (.getfield 30, 3) := by decide +kernel
theorem dX9_takeClue_18 : decode cX9_takeClue 18 = .ok (.getfield 46, 3) := by decide +kernel
theorem dX9_takeClue_21 : decode cX9_takeClue 21 = .ok (.iload_n 3, 1) := by decide +kernel
theorem dX9_takeClue_22 : decode cX9_takeClue 22 = .ok (.invokevirtual 40, 3) := by decide +kernel
theorem dX9_takeClue_25 : decode cX9_takeClue 25 = .ok (.putfield 49, 3) := by decide +kernel
theorem dX9_takeClue_28 : decode cX9_takeClue 28 = .ok (.aload_n 0, 1) := by decide +kernel
theorem dX9_takeClue_29 : decode cX9_takeClue 29 = .ok (.aload_n 1, 1) := by decide +kernel
theorem dX9_takeClue_30 : decode cX9_takeClue 30 = .ok (.getfield 53, 3) := by decide +kernel
theorem dX9_takeClue_33 : decode cX9_takeClue 33 = .ok (.iload_n 2, 1) := by decide +kernel
theorem dX9_takeClue_34 : decode cX9_takeClue 34 = .ok (.iaload, 1) := by decide +kernel
theorem dX9_takeClue_35 : decode cX9_takeClue 35 = .ok (.putfield 58, 3) := by decide +kernel
theorem dX9_takeClue_38 : decode cX9_takeClue 38 = .ok (.iconst 0, 1) := by decide +kernel
theorem dX9_takeClue_39 : decode cX9_takeClue 39 = .ok (.istore 5, 2) := by decide +kernel
theorem dX9_takeClue_41 : decode cX9_takeClue 41 = .ok (.iload 5, 2) := by decide +kernel
theorem dX9_takeClue_43 : decode cX9_takeClue 43 = .ok (.aload_n 0, 1) := by decide +kernel
theorem dX9_takeClue_44 : decode cX9_takeClue 44 = .ok (.getfield 58, 3) := by decide +kernel
theorem dX9_takeClue_47 : decode cX9_takeClue 47 = .ok (.if_icmp .ge 109, 3) := by decide +kernel
theorem dX9_takeClue_50 : decode cX9_takeClue 50 = .ok (.aload_n 1, 1) := by decide +kernel
theorem dX9_takeClue_51 : decode cX9_takeClue 51 = .ok (.getfield 61, 3) := by decide +kernel
theorem dX9_takeClue_54 : decode cX9_takeClue 54 = .ok (.iload_n 2, 1) := by decide +kernel
theorem dX9_takeClue_55 : decode cX9_takeClue 55 = .ok (.bipush 8, 2) := by decide +kernel
theorem dX9_takeClue_57 : decode cX9_takeClue 57 = .ok (.imul, 1) := by decide +kernel
theorem dX9_takeClue_58 : decode cX9_takeClue 58 = .ok (.iload 5, 2) := by decide +kernel
theorem dX9_takeClue_60 : decode cX9_takeClue 60 = .ok (.iadd, 1) := by decide +kernel
theorem dX9_takeClue_61 : decode cX9_takeClue 61 = .ok (.iaload, 1) := by decide +kernel
theorem dX9_takeClue_62 : decode cX9_takeClue 62 = .ok (.istore 6, 2) := by decide +kernel
theorem dX9_takeClue_64 : decode cX9_takeClue 64 = .ok (.aload_n 0, 1) := by decide +kernel
theorem dX9_takeClue_65 : decode cX9_takeClue 65 = .ok (.getfield 30, 3) := by decide +kernel
theorem dX9_takeClue_68 : decode cX9_takeClue 68 = .ok (.getfield 62, 3) := by decide +kernel
theorem dX9_takeClue_71 : decode cX9_takeClue 71 = .ok (.iload 6, 2) := by decide +kernel
theorem dX9_takeClue_73 : decode cX9_takeClue 73 = .ok (.iaload, 1) := by decide +kernel
theorem dX9_takeClue_74 : decode cX9_takeClue 74 = .ok (.istore 7, 2) := by decide +kernel
theorem dX9_takeClue_76 : decode cX9_takeClue 76 = .ok (.aload_n 0, 1) := by decide +kernel
theorem dX9_takeClue_77 : decode cX9_takeClue 77 = .ok (.getfield 9, 3) := by decide +kernel
theorem dX9_takeClue_80 : decode cX9_takeClue 80 = .ok (.iload 5, 2) := by decide +kernel
theorem dX9_takeClue_82 : decode cX9_takeClue 82 = .ok (.iload 6, 2) := by decide +kernel
theorem dX9_takeClue_84 : decode cX9_takeClue 84 = .ok (.iastore, 1) := by decide +kernel
theorem dX9_takeClue_85 : decode cX9_takeClue 85 = .ok (.aload_n 0, 1) := by decide +kernel
theorem dX9_takeClue_86 : decode cX9_takeClue 86 = .ok (.getfield 15, 3) := by decide +kernel
theorem dX9_takeClue_89 : decode cX9_takeClue 89 = .ok (.iload 5, 2) := by decide +kernel
theorem dX9_takeClue_91 : decode cX9_takeClue 91 = .ok (.aload_n 0, 1) := by decide +kernel
theorem dX9_takeClue_92 : decode cX9_takeClue 92 = .ok (.getfield 30, 3) := by decide +kernel
theorem dX9_takeClue_95 : decode cX9_takeClue 95 = .ok (.iload 6, 2) := by decide +kernel
theorem dX9_takeClue_97 : decode cX9_takeClue 97 = .ok (.iload 4, 2) := by decide +kernel
theorem dX9_takeClue_99 : decode cX9_takeClue 99 = .ok (.invokevirtual 65, 3) := by decide +kernel
theorem dX9_takeClue_102 : decode cX9_takeClue 102 = .ok (.iastore, 1) := by decide +kernel
theorem dX9_takeClue_103 : decode cX9_takeClue 103 = .ok (.aload_n 0, 1) := by decide +kernel
theorem dX9_takeClue_104 : decode cX9_takeClue 104 = .ok (.getfield 30, 3) := by decide +kernel
theorem dX9_takeClue_107 : decode cX9_takeClue 107 = .ok (.getfield 69, 3) := by decide +kernel
theorem dX9_takeClue_110 : decode cX9_takeClue 110 = .ok (.iload 6, 2) := by decide +kernel
theorem dX9_takeClue_112 : decode cX9_takeClue 112 = .ok (.bipush 10, 2) := by decide +kernel
theorem dX9_takeClue_114 : decode cX9_takeClue 114 = .ok (.imul, 1) := by decide +kernel
theorem dX9_takeClue_115 : decode cX9_takeClue 115 = .ok (.aload_n 0, 1) := by decide +kernel
theorem dX9_takeClue_116 : decode cX9_takeClue 116 = .ok (.getfield 18, 3) := by decide +kernel
theorem dX9_takeClue_119 : decode cX9_takeClue 119 = .ok (.aload_n 0, 1) := by decide +kernel
theorem dX9_takeClue_120 : decode cX9_takeClue 120 = .ok (.getfield 21, 3) := by decide +kernel
theorem dX9_takeClue_123 : decode cX9_takeClue 123 = .ok (.iload 5, 2) := by decide +kernel
theorem dX9_takeClue_125 : decode cX9_takeClue 125 = .ok (.iaload, 1) := by decide +kernel
theorem dX9_takeClue_126 : decode cX9_takeClue 126 = .ok (.iload 7, 2) := by decide +kernel
theorem dX9_takeClue_128 : decode cX9_takeClue 128 = .ok (.invokestatic 72, 3) := by decide +kernel
theorem dX9_takeClue_131 : decode cX9_takeClue 131 = .ok (.aload_n 0, 1) := by decide +kernel
theorem dX9_takeClue_132 : decode cX9_takeClue 132 = .ok (.getfield 21, 3) := by decide +kernel
theorem dX9_takeClue_135 : decode cX9_takeClue 135 = .ok (.iload 5, 2) := by decide +kernel
theorem dX9_takeClue_137 : decode cX9_takeClue 137 = .ok (.iconst 1, 1) := by decide +kernel
theorem dX9_takeClue_138 : decode cX9_takeClue 138 = .ok (.iadd, 1) := by decide +kernel
theorem dX9_takeClue_139 : decode cX9_takeClue 139 = .ok (.aload_n 0, 1) := by decide +kernel
theorem dX9_takeClue_140 : decode cX9_takeClue 140 = .ok (.getfield 21, 3) := by decide +kernel
theorem dX9_takeClue_143 : decode cX9_takeClue 143 = .ok (.iload 5, 2) := by decide +kernel
theorem dX9_takeClue_145 : decode cX9_takeClue 145 = .ok (.iaload, 1) := by decide +kernel
theorem dX9_takeClue_146 : decode cX9_takeClue 146 = .ok (.iload 7, 2) := by decide +kernel
theorem dX9_takeClue_148 : decode cX9_takeClue 148 = .ok (.iadd, 1) := by decide +kernel
theorem dX9_takeClue_149 : decode cX9_takeClue 149 = .ok (.iastore, 1) := by decide +kernel
theorem dX9_takeClue_150 : decode cX9_takeClue 150 = .ok (.iinc 5 1, 3) := by decide +kernel
theorem dX9_takeClue_153 : decode cX9_takeClue 153 = .ok (.goto (-112), 3) := by decide +kernel
theorem dX9_takeClue_156 : decode cX9_takeClue 156 = .ok (.return_, 1) := by decide +kernel
def K_X9_takeClue_41 (G : xG) (l : Launch) (d : Nat) (P : xMem → Prop) (v2 v4 v5 : Int) (μ : xMem) : Prop := RR G l d 0 0 false mX9_takeClue (qV P) 41 [some (xr G 33), some (xr G 19), some (xi v2), none, some (xi v4), some (xi v5), none, none] [] LAY μ 0 0
set_option maxRecDepth 20000 in
theorem E_X9_takeClue {G : xG} {l : Launch} {d : Nat} {P : xMem → Prop} {v2 v3 : Int} {μ : xMem} (h : CI G l d mX4_knownOn [xr G 10, xi v3] μ (fun r1 m2 => CI G l d mX4_knownOn [xr G 7, xi v3] m2 (fun r3 m4 => ((0 ≤ v2 ∧ v2 < 60) ∧ K_X9_takeClue_41 G l (d + 1) P v2 r1 0 (st2 (st2 m4 33 6 r3) 33 5 (m4 24 v2)))))) : CV G l (d + 1) mX9_takeClue [xr G 33, xr G 19, xi v2, xi v3] μ P := by
  refine CC.ofRR (ll := [some (xr G 33), some (xr G 19), some (xi v2), some (xi v3), none, none, none, none]) (by decide +kernel) (Nat.le_of_ble_eq_true rfl) rfl (fun h => by cases h) ?_
  refine xr_aload_n dX9_takeClue_0 rfl ?_
  refine xr_getR dX9_takeClue_1 fl_X9_30 L_33 rfl ?_
  refine xr_getR dX9_takeClue_4 fl_X9_34 L_3 rfl ?_
  refine xr_iload_n dX9_takeClue_7 rfl ?_
  refine xr_cvI (As := [xi v3]) dX9_takeClue_8 mi_X4_knownOn ml_X9_40 se_X4_knownOn L_10 rfl rfl rfl (Nat.le_of_ble_eq_true rfl) h (fun r1 m2 hr1 h => ?_)
  refine xr_istore' (ll' := [some (xr G 33), some (xr G 19), some (xi v2), some (xi v3), some (xi r1), none, none, none]) dX9_takeClue_11 (by decide) rfl rfl ?_
  refine xr_aload_n dX9_takeClue_13 rfl ?_
  refine xr_aload_n dX9_takeClue_14 rfl ?_
  refine xr_getR dX9_takeClue_15 fl_X9_30 L_33 rfl ?_
  refine xr_getR dX9_takeClue_18 fl_X9_46 L_3 rfl ?_
  refine xr_iload_n dX9_takeClue_21 rfl ?_
  refine xr_cvI (As := [xi v3]) dX9_takeClue_22 mi_X4_knownOn ml_X9_40 se_X4_knownOn L_7 rfl rfl rfl (Nat.le_of_ble_eq_true rfl) h (fun r3 m4 hr3 h => ?_)
  refine xr_putI dX9_takeClue_25 fp_X9_49 L_33 rfl rfl ⟨rfl, rfl⟩ ?_
  refine xr_aload_n dX9_takeClue_28 rfl ?_
  refine xr_aload_n dX9_takeClue_29 rfl ?_
  refine xr_getR dX9_takeClue_30 fl_X9_53 L_19 rfl ?_
  refine xr_iload_n dX9_takeClue_33 rfl ?_
  obtain ⟨q5, h⟩ := h
  refine xr_iaload' (v := m4 24 v2) dX9_takeClue_34 L_24 rfl (by decide) q5 (by simp [st2, cpy]) ?_
  refine xr_putI dX9_takeClue_35 fp_X9_58 L_33 rfl rfl ⟨rfl, rfl⟩ ?_
  refine xr_iconst dX9_takeClue_38 ?_
  refine xr_istore' (ll' := [some (xr G 33), some (xr G 19), some (xi v2), some (xi v3), some (xi r1), some (xi 0), none, none]) dX9_takeClue_39 (by decide) rfl rfl ?_
  refine xr_wk (ll' := [some (xr G 33), some (xr G 19), some (xi v2), none, some (xi r1), some (xi 0), none, none]) ⟨rfl, ⟨rfl, ⟨rfl, ⟨rfl, ⟨rfl, trivial⟩⟩⟩⟩⟩ ?_
  exact h
set_option maxRecDepth 20000 in
theorem B_X9_takeClue_41 {G : xG} {l : Launch} {d : Nat} {P : xMem → Prop} {v2 v4 v5 : Int} {μ : xMem} (h : (iR v5 ∧ iR (μ 33 5) ∧ ((μ 33 5) ≤ v5 → P μ) ∧ (v5 < (μ 33 5) → ((0 ≤ (v2 * 8) + v5 ∧ (v2 * 8) + v5 < 480) ∧ ((0 ≤ μ 23 ((v2 * 8) + v5) ∧ μ 23 ((v2 * 8) + v5) < 120) ∧ ((0 ≤ v5 ∧ v5 < 8) ∧ CI G l d mX3_playsOf [xr G 3, xi (μ 23 ((v2 * 8) + v5)), xi v4] (st2 μ 34 v5 (μ 23 ((v2 * 8) + v5))) (fun r8 m9 => ((0 ≤ v5 ∧ v5 < 9) ∧ ((0 ≤ (μ 23 ((v2 * 8) + v5)) * 10) ∧ (0 ≤ m9 37 v5) ∧ (0 ≤ μ 14 (μ 23 ((v2 * 8) + v5))) ∧ ((μ 23 ((v2 * 8) + v5)) * 10 + (μ 14 (μ 23 ((v2 * 8) + v5))) ≤ 1200) ∧ (m9 37 v5 + (μ 14 (μ 23 ((v2 * 8) + v5))) ≤ 80) ∧ ((0 ≤ v5 + 1 ∧ v5 + 1 < 9) ∧ K_X9_takeClue_41 G l (d + 1) P v2 v4 (v5 + 1) (st2 (cpy (st2 m9 35 v5 r8) 13 ((μ 23 ((v2 * 8) + v5)) * 10) 36 (m9 37 v5) (μ 14 (μ 23 ((v2 * 8) + v5)))) 37 (v5 + 1) ((m9 37 v5) + (μ 14 (μ 23 ((v2 * 8) + v5))))))))))))))) : K_X9_takeClue_41 G l (d + 1) P v2 v4 v5 μ := by
  unfold K_X9_takeClue_41
  refine xr_iload dX9_takeClue_41 rfl ?_
  refine xr_aload_n dX9_takeClue_43 rfl ?_
  refine xr_getI' (v := μ 33 5) dX9_takeClue_44 fl_X9_58 L_33 rfl rfl rfl ?_
  obtain ⟨q1, q2, hT3, hF4⟩ := h
  refine xr_icmp_ge (tgt := 156) dX9_takeClue_47 (by decide) q1 q2 (fun c => ?_) (fun c => ?_)
  · have h := hT3 c
    exact xr_ret dX9_takeClue_156 rfl ⟨rfl, rfl, h⟩
  · have h := hF4 (Int.not_le.mp c)
    refine xr_aload_n dX9_takeClue_50 rfl ?_
    refine xr_getR dX9_takeClue_51 fl_X9_61 L_19 rfl ?_
    refine xr_iload_n dX9_takeClue_54 rfl ?_
    refine xr_bipush dX9_takeClue_55 (by decide) ?_
    refine xr_imul dX9_takeClue_57 ?_
    refine xr_iload dX9_takeClue_58 rfl ?_
    refine xr_iadd dX9_takeClue_60 ?_
    obtain ⟨q5, h⟩ := h
    refine xr_iaload' (v := μ 23 ((v2 * 8) + v5)) dX9_takeClue_61 L_23 rfl (by decide) q5 rfl ?_
    refine xr_istore' (ll' := [some (xr G 33), some (xr G 19), some (xi v2), none, some (xi v4), some (xi v5), some (xi (μ 23 ((v2 * 8) + v5))), none]) dX9_takeClue_62 (by decide) rfl rfl ?_
    refine xr_aload_n dX9_takeClue_64 rfl ?_
    refine xr_getR dX9_takeClue_65 fl_X9_30 L_33 rfl ?_
    refine xr_getR dX9_takeClue_68 fl_X9_62 L_3 rfl ?_
    refine xr_iload dX9_takeClue_71 rfl ?_
    obtain ⟨q6, h⟩ := h
    refine xr_iaload' (v := μ 14 (μ 23 ((v2 * 8) + v5))) dX9_takeClue_73 L_14 rfl (by decide) q6 rfl ?_
    refine xr_istore' (ll' := [some (xr G 33), some (xr G 19), some (xi v2), none, some (xi v4), some (xi v5), some (xi (μ 23 ((v2 * 8) + v5))), some (xi (μ 14 (μ 23 ((v2 * 8) + v5))))]) dX9_takeClue_74 (by decide) rfl rfl ?_
    refine xr_aload_n dX9_takeClue_76 rfl ?_
    refine xr_getR dX9_takeClue_77 fl_X9_9 L_33 rfl ?_
    refine xr_iload dX9_takeClue_80 rfl ?_
    refine xr_iload dX9_takeClue_82 rfl ?_
    obtain ⟨q7, h⟩ := h
    refine xr_iastore dX9_takeClue_84 L_34 rfl (by decide) q7 ?_
    refine xr_aload_n dX9_takeClue_85 rfl ?_
    refine xr_getR dX9_takeClue_86 fl_X9_15 L_33 rfl ?_
    refine xr_iload dX9_takeClue_89 rfl ?_
    refine xr_aload_n dX9_takeClue_91 rfl ?_
    refine xr_getR dX9_takeClue_92 fl_X9_30 L_33 rfl ?_
    refine xr_iload dX9_takeClue_95 rfl ?_
    refine xr_iload dX9_takeClue_97 rfl ?_
    refine xr_cvI (As := [xi (μ 23 ((v2 * 8) + v5)), xi v4]) dX9_takeClue_99 mi_X3_playsOf ml_X9_65 se_X3_playsOf L_3 rfl rfl rfl (Nat.le_of_ble_eq_true rfl) h (fun r8 m9 hr8 h => ?_)
    refine xr_iastore dX9_takeClue_102 L_35 rfl (by decide) q7 ?_
    refine xr_aload_n dX9_takeClue_103 rfl ?_
    refine xr_getR dX9_takeClue_104 fl_X9_30 L_33 rfl ?_
    refine xr_getR dX9_takeClue_107 fl_X9_69 L_3 rfl ?_
    refine xr_iload dX9_takeClue_110 rfl ?_
    refine xr_bipush dX9_takeClue_112 (by decide) ?_
    refine xr_imul dX9_takeClue_114 ?_
    refine xr_aload_n dX9_takeClue_115 rfl ?_
    refine xr_getR dX9_takeClue_116 fl_X9_18 L_33 rfl ?_
    refine xr_aload_n dX9_takeClue_119 rfl ?_
    refine xr_getR dX9_takeClue_120 fl_X9_21 L_33 rfl ?_
    refine xr_iload dX9_takeClue_123 rfl ?_
    obtain ⟨q10, h⟩ := h
    refine xr_iaload' (v := m9 37 v5) dX9_takeClue_125 L_37 rfl (by decide) q10 (by simp [st2, cpy]) ?_
    refine xr_iload dX9_takeClue_126 rfl ?_
    obtain ⟨q11, q12, q13, q14, q15, h⟩ := h
    refine xr_copyI dX9_takeClue_128 ml_X9_72 w_acn w_acs w_aci (Nat.le_add_left _ _) (Nat.le_of_ble_eq_true rfl) L_13 L_36 (by decide) (by decide) q11 q12 q13 q14 q15 ?_ rfl
    refine xr_aload_n dX9_takeClue_131 rfl ?_
    refine xr_getR dX9_takeClue_132 fl_X9_21 L_33 rfl ?_
    refine xr_iload dX9_takeClue_135 rfl ?_
    refine xr_iconst dX9_takeClue_137 ?_
    refine xr_iadd dX9_takeClue_138 ?_
    refine xr_aload_n dX9_takeClue_139 rfl ?_
    refine xr_getR dX9_takeClue_140 fl_X9_21 L_33 rfl ?_
    refine xr_iload dX9_takeClue_143 rfl ?_
    refine xr_iaload' (v := m9 37 v5) dX9_takeClue_145 L_37 rfl (by decide) q10 (by simp [st2, cpy]) ?_
    refine xr_iload dX9_takeClue_146 rfl ?_
    refine xr_iadd dX9_takeClue_148 ?_
    obtain ⟨q16, h⟩ := h
    refine xr_iastore dX9_takeClue_149 L_37 rfl (by decide) q16 ?_
    refine xr_iinc' (ll' := [some (xr G 33), some (xr G 19), some (xi v2), none, some (xi v4), some (xi (v5 + 1)), some (xi (μ 23 ((v2 * 8) + v5))), some (xi (μ 14 (μ 23 ((v2 * 8) + v5))))]) dX9_takeClue_150 rfl (by decide) rfl rfl ?_
    refine xr_goto (tgt := 41) dX9_takeClue_153 (by decide) ?_
    refine xr_wk (ll' := [some (xr G 33), some (xr G 19), some (xi v2), none, some (xi v4), some (xi (v5 + 1)), none, none]) ⟨rfl, ⟨rfl, ⟨rfl, ⟨rfl, ⟨rfl, trivial⟩⟩⟩⟩⟩ ?_
    exact h
theorem dX9_takeAnswer_0 : decode cX9_takeAnswer 0 = .ok (.aload_n 0, 1) := by decide +kernel
theorem dX9_takeAnswer_1 : decode cX9_takeAnswer 1 = .ok (.aload_n 0, 1) := by decide +kernel
theorem dX9_takeAnswer_2 : decode cX9_takeAnswer 2 = .ok (.getfield 30, 3) := by decide +kernel
theorem dX9_takeAnswer_5 : decode cX9_takeAnswer 5 = .ok (.getfield 62, 3) := by decide +kernel
theorem dX9_takeAnswer_8 : decode cX9_takeAnswer 8 = .ok (.iload_n 1, 1) := by decide +kernel
theorem dX9_takeAnswer_9 : decode cX9_takeAnswer 9 = .ok (.iaload, 1) := by decide +kernel
theorem dX9_takeAnswer_10 : decode cX9_takeAnswer 10 = .ok (.putfield 78, 3) := by decide +kernel
theorem dX9_takeAnswer_13 : decode cX9_takeAnswer 13 = .ok (.iconst 0, 1) := by decide +kernel
theorem dX9_takeAnswer_14 : decode cX9_takeAnswer 14 = .ok (.istore_n 2, 1) := by decide +kernel
theorem dX9_takeAnswer_15 : decode cX9_takeAnswer 15 = .ok (.iload_n 2, 1) := by decide +kernel
theorem dX9_takeAnswer_16 : decode cX9_takeAnswer 16 = .ok (.aload_n 0, 1) := by decide +kernel
theorem dX9_takeAnswer_17 : decode cX9_takeAnswer 17 = .ok (.getfield 78, 3) := by decide +kernel
theorem dX9_takeAnswer_20 : decode cX9_takeAnswer 20 = .ok (.if_icmp .ge 43, 3) := by decide +kernel
theorem dX9_takeAnswer_23 : decode cX9_takeAnswer 23 = .ok (.aload_n 0, 1) := by decide +kernel
theorem dX9_takeAnswer_24 : decode cX9_takeAnswer 24 = .ok (.getfield 30, 3) := by decide +kernel
theorem dX9_takeAnswer_27 : decode cX9_takeAnswer 27 = .ok (.iload_n 1, 1) := by decide +kernel
theorem dX9_takeAnswer_28 : decode cX9_takeAnswer 28 = .ok (.iload_n 2, 1) := by decide +kernel
theorem dX9_takeAnswer_29 : decode cX9_takeAnswer 29 = .ok (.invokevirtual 81, 3) := by decide +kernel
theorem dX9_takeAnswer_32 : decode cX9_takeAnswer 32 = .ok (.istore_n 3, 1) := by decide +kernel
theorem dX9_takeAnswer_33 : decode cX9_takeAnswer 33 = .ok (.aload_n 0, 1) := by decide +kernel
theorem dX9_takeAnswer_34 : decode cX9_takeAnswer 34 = .ok (.getfield 24, 3) := by decide +kernel
theorem dX9_takeAnswer_37 : decode cX9_takeAnswer 37 = .ok (.iload_n 2, 1) := by decide +kernel
theorem dX9_takeAnswer_38 : decode cX9_takeAnswer 38 = .ok (.iload_n 3, 1) := by decide +kernel
theorem dX9_takeAnswer_39 : decode cX9_takeAnswer 39 = .ok (.iastore, 1) := by decide +kernel
theorem dX9_takeAnswer_40 : decode cX9_takeAnswer 40 = .ok (.aload_n 0, 1) := by decide +kernel
theorem dX9_takeAnswer_41 : decode cX9_takeAnswer 41 = .ok (.getfield 24, 3) := by decide +kernel
theorem dX9_takeAnswer_44 : decode cX9_takeAnswer 44 = .ok (.bipush 10, 2) := by decide +kernel
theorem dX9_takeAnswer_46 : decode cX9_takeAnswer 46 = .ok (.aload_n 0, 1) := by decide +kernel
theorem dX9_takeAnswer_47 : decode cX9_takeAnswer 47 = .ok (.getfield 78, 3) := by decide +kernel
theorem dX9_takeAnswer_50 : decode cX9_takeAnswer 50 = .ok (.iadd, 1) := by decide +kernel
theorem dX9_takeAnswer_51 : decode cX9_takeAnswer 51 = .ok (.iconst 1, 1) := by decide +kernel
theorem dX9_takeAnswer_52 : decode cX9_takeAnswer 52 = .ok (.isub, 1) := by decide +kernel
theorem dX9_takeAnswer_53 : decode cX9_takeAnswer 53 = .ok (.iload_n 2, 1) := by decide +kernel
theorem dX9_takeAnswer_54 : decode cX9_takeAnswer 54 = .ok (.isub, 1) := by decide +kernel
theorem dX9_takeAnswer_55 : decode cX9_takeAnswer 55 = .ok (.iload_n 3, 1) := by decide +kernel
theorem dX9_takeAnswer_56 : decode cX9_takeAnswer 56 = .ok (.iastore, 1) := by decide +kernel
theorem dX9_takeAnswer_57 : decode cX9_takeAnswer 57 = .ok (.iinc 2 1, 3) := by decide +kernel
theorem dX9_takeAnswer_60 : decode cX9_takeAnswer 60 = .ok (.goto (-45), 3) := by decide +kernel
theorem dX9_takeAnswer_63 : decode cX9_takeAnswer 63 = .ok (.return_, 1) := by decide +kernel
def K_X9_takeAnswer_15 (G : xG) (l : Launch) (d : Nat) (P : xMem → Prop) (v1 v2 : Int) (μ : xMem) : Prop := RR G l d 0 0 false mX9_takeAnswer (qV P) 15 [some (xr G 33), some (xi v1), some (xi v2), none] [] LAY μ 0 0
set_option maxRecDepth 20000 in
theorem E_X9_takeAnswer {G : xG} {l : Launch} {d : Nat} {P : xMem → Prop} {v1 : Int} {μ : xMem} (h : ((0 ≤ v1 ∧ v1 < 120) ∧ K_X9_takeAnswer_15 G l (d + 1) P v1 0 (st2 μ 33 8 (μ 14 v1)))) : CV G l (d + 1) mX9_takeAnswer [xr G 33, xi v1] μ P := by
  refine CC.ofRR (ll := [some (xr G 33), some (xi v1), none, none]) (by decide +kernel) (Nat.le_of_ble_eq_true rfl) rfl (fun h => by cases h) ?_
  refine xr_aload_n dX9_takeAnswer_0 rfl ?_
  refine xr_aload_n dX9_takeAnswer_1 rfl ?_
  refine xr_getR dX9_takeAnswer_2 fl_X9_30 L_33 rfl ?_
  refine xr_getR dX9_takeAnswer_5 fl_X9_62 L_3 rfl ?_
  refine xr_iload_n dX9_takeAnswer_8 rfl ?_
  obtain ⟨q1, h⟩ := h
  refine xr_iaload' (v := μ 14 v1) dX9_takeAnswer_9 L_14 rfl (by decide) q1 rfl ?_
  refine xr_putI dX9_takeAnswer_10 fp_X9_78 L_33 rfl rfl ⟨rfl, rfl⟩ ?_
  refine xr_iconst dX9_takeAnswer_13 ?_
  refine xr_istore_n' (ll' := [some (xr G 33), some (xi v1), some (xi 0), none]) dX9_takeAnswer_14 (by decide) rfl rfl ?_
  exact h
set_option maxRecDepth 20000 in
theorem B_X9_takeAnswer_15 {G : xG} {l : Launch} {d : Nat} {P : xMem → Prop} {v1 v2 : Int} {μ : xMem} (h : (iR v2 ∧ iR (μ 33 8) ∧ ((μ 33 8) ≤ v2 → P μ) ∧ (v2 < (μ 33 8) → CI G l d mX3_letterAt [xr G 3, xi v1, xi v2] μ (fun r5 m6 => ((0 ≤ v2 ∧ v2 < 20) ∧ ((0 ≤ ((10 + (m6 33 8)) - 1) - v2 ∧ ((10 + (m6 33 8)) - 1) - v2 < 20) ∧ K_X9_takeAnswer_15 G l (d + 1) P v1 (v2 + 1) (st2 (st2 m6 38 v2 r5) 38 (((10 + (m6 33 8)) - 1) - v2) r5))))))) : K_X9_takeAnswer_15 G l (d + 1) P v1 v2 μ := by
  unfold K_X9_takeAnswer_15
  refine xr_iload_n dX9_takeAnswer_15 rfl ?_
  refine xr_aload_n dX9_takeAnswer_16 rfl ?_
  refine xr_getI' (v := μ 33 8) dX9_takeAnswer_17 fl_X9_78 L_33 rfl rfl rfl ?_
  obtain ⟨q1, q2, hT3, hF4⟩ := h
  refine xr_icmp_ge (tgt := 63) dX9_takeAnswer_20 (by decide) q1 q2 (fun c => ?_) (fun c => ?_)
  · have h := hT3 c
    exact xr_ret dX9_takeAnswer_63 rfl ⟨rfl, rfl, h⟩
  · have h := hF4 (Int.not_le.mp c)
    refine xr_aload_n dX9_takeAnswer_23 rfl ?_
    refine xr_getR dX9_takeAnswer_24 fl_X9_30 L_33 rfl ?_
    refine xr_iload_n dX9_takeAnswer_27 rfl ?_
    refine xr_iload_n dX9_takeAnswer_28 rfl ?_
    refine xr_cvI (As := [xi v1, xi v2]) dX9_takeAnswer_29 mi_X3_letterAt ml_X9_81 se_X3_letterAt L_3 rfl rfl rfl (Nat.le_of_ble_eq_true rfl) h (fun r5 m6 hr5 h => ?_)
    refine xr_istore_n' (ll' := [some (xr G 33), some (xi v1), some (xi v2), some (xi r5)]) dX9_takeAnswer_32 (by decide) rfl rfl ?_
    refine xr_aload_n dX9_takeAnswer_33 rfl ?_
    refine xr_getR dX9_takeAnswer_34 fl_X9_24 L_33 rfl ?_
    refine xr_iload_n dX9_takeAnswer_37 rfl ?_
    refine xr_iload_n dX9_takeAnswer_38 rfl ?_
    obtain ⟨q7, h⟩ := h
    refine xr_iastore dX9_takeAnswer_39 L_38 rfl (by decide) q7 ?_
    refine xr_aload_n dX9_takeAnswer_40 rfl ?_
    refine xr_getR dX9_takeAnswer_41 fl_X9_24 L_33 rfl ?_
    refine xr_bipush dX9_takeAnswer_44 (by decide) ?_
    refine xr_aload_n dX9_takeAnswer_46 rfl ?_
    refine xr_getI' (v := m6 33 8) dX9_takeAnswer_47 fl_X9_78 L_33 rfl rfl (by simp [st2, cpy]) ?_
    refine xr_iadd dX9_takeAnswer_50 ?_
    refine xr_iconst dX9_takeAnswer_51 ?_
    refine xr_isub dX9_takeAnswer_52 ?_
    refine xr_iload_n dX9_takeAnswer_53 rfl ?_
    refine xr_isub dX9_takeAnswer_54 ?_
    refine xr_iload_n dX9_takeAnswer_55 rfl ?_
    obtain ⟨q8, h⟩ := h
    refine xr_iastore dX9_takeAnswer_56 L_38 rfl (by decide) q8 ?_
    refine xr_iinc' (ll' := [some (xr G 33), some (xi v1), some (xi (v2 + 1)), some (xi r5)]) dX9_takeAnswer_57 rfl (by decide) rfl rfl ?_
    refine xr_goto (tgt := 15) dX9_takeAnswer_60 (by decide) ?_
    refine xr_wk (ll' := [some (xr G 33), some (xi v1), some (xi (v2 + 1)), none]) ⟨rfl, ⟨rfl, ⟨rfl, trivial⟩⟩⟩ ?_
    exact h
theorem dX9_isSign_0 : decode cX9_isSign 0 = .ok (.aload_n 0, 1) := by decide +kernel
theorem dX9_isSign_1 : decode cX9_isSign 1 = .ok (.getfield 15, 3) := by decide +kernel
theorem dX9_isSign_4 : decode cX9_isSign 4 = .ok (.iload_n 1, 1) := by decide +kernel
theorem dX9_isSign_5 : decode cX9_isSign 5 = .ok (.iaload, 1) := by decide +kernel
theorem dX9_isSign_6 : decode cX9_isSign 6 = .ok (.iconst 1, 1) := by decide +kernel
theorem dX9_isSign_7 : decode cX9_isSign 7 = .ok (.iload_n 2, 1) := by decide +kernel
theorem dX9_isSign_8 : decode cX9_isSign 8 = .ok (.ishl, 1) := by decide +kernel
theorem dX9_isSign_9 : decode cX9_isSign 9 = .ok (.iand, 1) := by decide +kernel
theorem dX9_isSign_10 : decode cX9_isSign 10 = .ok (.ifCond .eq 7, 3) := by decide +kernel
theorem dX9_isSign_13 : decode cX9_isSign 13 = .ok (.iconst 1, 1) := by decide +kernel
theorem dX9_isSign_14 : decode cX9_isSign 14 = .ok (.goto 4, 3) := by decide +kernel
theorem dX9_isSign_17 : decode cX9_isSign 17 = .ok (.iconst 0, 1) := by decide +kernel
theorem dX9_isSign_18 : decode cX9_isSign 18 = .ok (.ireturn, 1) := by decide +kernel
set_option maxRecDepth 20000 in
theorem E_X9_isSign {G : xG} {l : Launch} {d : Nat} {P : Int → xMem → Prop} {v1 v2 : Int} {μ : xMem} (h : ((0 ≤ v1 ∧ v1 < 8) ∧ (((jand (μ 35 v1) (jshl 1 v2)) = 0 → P 0 μ) ∧ ((jand (μ 35 v1) (jshl 1 v2)) ≠ 0 → P 1 μ)))) : CI G l (d + 1) mX9_isSign [xr G 33, xi v1, xi v2] μ P := by
  refine CC.ofRR (ll := [some (xr G 33), some (xi v1), some (xi v2)]) (by decide +kernel) (Nat.le_of_ble_eq_true rfl) rfl (fun h => by cases h) ?_
  refine xr_aload_n dX9_isSign_0 rfl ?_
  refine xr_getR dX9_isSign_1 fl_X9_15 L_33 rfl ?_
  refine xr_iload_n dX9_isSign_4 rfl ?_
  obtain ⟨q1, h⟩ := h
  refine xr_iaload' (v := μ 35 v1) dX9_isSign_5 L_35 rfl (by decide) q1 rfl ?_
  refine xr_iconst dX9_isSign_6 ?_
  refine xr_iload_n dX9_isSign_7 rfl ?_
  refine xr_ishl dX9_isSign_8 ?_
  refine xr_iand dX9_isSign_9 ?_
  obtain ⟨hT2, hF3⟩ := h
  refine xr_if_eq (tgt := 17) dX9_isSign_10 (by decide) (jR_and _ _)  (fun c => ?_) (fun c => ?_)
  · have h := hT2 c
    refine xr_iconst dX9_isSign_17 ?_
    exact xr_zret dX9_isSign_18 rfl (x_nz (by decide)).1 ⟨rfl, _, rfl, x_01 (by decide), h⟩
  · have h := hF3 c
    refine xr_iconst dX9_isSign_13 ?_
    refine xr_goto (tgt := 18) dX9_isSign_14 (by decide) ?_
    exact xr_zret dX9_isSign_18 rfl (x_nz (by decide)).1 ⟨rfl, _, rfl, x_01 (by decide), h⟩
theorem dX9_meansAnswer_0 : decode cX9_meansAnswer 0 = .ok (.aload_n 0, 1) := by decide +kernel
theorem dX9_meansAnswer_1 : decode cX9_meansAnswer 1 = .ok (.getfield 30, 3) := by decide +kernel
theorem dX9_meansAnswer_4 : decode cX9_meansAnswer 4 = .ok (.aload_n 0, 1) := by decide +kernel
theorem dX9_meansAnswer_5 : decode cX9_meansAnswer 5 = .ok (.getfield 9, 3) := by decide +kernel
theorem dX9_meansAnswer_8 : decode cX9_meansAnswer 8 = .ok (.iload_n 1, 1) := by decide +kernel
theorem dX9_meansAnswer_9 : decode cX9_meansAnswer 9 = .ok (.iaload, 1) := by decide +kernel
theorem dX9_meansAnswer_10 : decode cX9_meansAnswer 10 = .ok (.iload_n 2, 1) := by decide +kernel
theorem dX9_meansAnswer_11 : decode cX9_meansAnswer 11 = .ok (.aload_n 0, 1) := by decide +kernel
theorem dX9_meansAnswer_12 : decode cX9_meansAnswer 12 = .ok (.getfield 49, 3) := by decide +kernel
theorem dX9_meansAnswer_15 : decode cX9_meansAnswer 15 = .ok (.invokevirtual 84, 3) := by decide +kernel
theorem dX9_meansAnswer_18 : decode cX9_meansAnswer 18 = .ok (.ireturn, 1) := by decide +kernel
set_option maxRecDepth 20000 in
theorem E_X9_meansAnswer {G : xG} {l : Launch} {d : Nat} {P : Int → xMem → Prop} {v1 v2 : Int} {μ : xMem} (h : ((0 ≤ v1 ∧ v1 < 8) ∧ CI G l d mX3_isMeant [xr G 3, xi (μ 34 v1), xi v2, xi (μ 33 6)] μ (fun r2 m3 => ((r2 = 0 ∨ r2 = 1) ∧ P r2 m3)))) : CI G l (d + 1) mX9_meansAnswer [xr G 33, xi v1, xi v2] μ P := by
  refine CC.ofRR (ll := [some (xr G 33), some (xi v1), some (xi v2)]) (by decide +kernel) (Nat.le_of_ble_eq_true rfl) rfl (fun h => by cases h) ?_
  refine xr_aload_n dX9_meansAnswer_0 rfl ?_
  refine xr_getR dX9_meansAnswer_1 fl_X9_30 L_33 rfl ?_
  refine xr_aload_n dX9_meansAnswer_4 rfl ?_
  refine xr_getR dX9_meansAnswer_5 fl_X9_9 L_33 rfl ?_
  refine xr_iload_n dX9_meansAnswer_8 rfl ?_
  obtain ⟨q1, h⟩ := h
  refine xr_iaload' (v := μ 34 v1) dX9_meansAnswer_9 L_34 rfl (by decide) q1 rfl ?_
  refine xr_iload_n dX9_meansAnswer_10 rfl ?_
  refine xr_aload_n dX9_meansAnswer_11 rfl ?_
  refine xr_getI' (v := μ 33 6) dX9_meansAnswer_12 fl_X9_49 L_33 rfl rfl rfl ?_
  refine xr_cvI (As := [xi (μ 34 v1), xi v2, xi (μ 33 6)]) dX9_meansAnswer_15 mi_X3_isMeant ml_X9_84 se_X3_isMeant L_3 rfl rfl rfl (Nat.le_of_ble_eq_true rfl) h (fun r2 m3 hr2 h => ?_)
  obtain ⟨q4, h⟩ := h
  exact xr_zret dX9_meansAnswer_18 rfl (x_nz q4).1 ⟨rfl, _, rfl, x_01 q4, h⟩
theorem dX9_mayBePiece_0 : decode cX9_mayBePiece 0 = .ok (.iload_n 1, 1) := by decide +kernel
theorem dX9_mayBePiece_1 : decode cX9_mayBePiece 1 = .ok (.iload_n 2, 1) := by decide +kernel
theorem dX9_mayBePiece_2 : decode cX9_mayBePiece 2 = .ok (.if_icmp .eq 22, 3) := by decide +kernel
theorem dX9_mayBePiece_5 : decode cX9_mayBePiece 5 = .ok (.aload_n 0, 1) := by decide +kernel
theorem dX9_mayBePiece_6 : decode cX9_mayBePiece 6 = .ok (.getfield 15, 3) := by decide +kernel
theorem dX9_mayBePiece_9 : decode cX9_mayBePiece 9 = .ok (.iload_n 1, 1) := by decide +kernel
theorem dX9_mayBePiece_10 : decode cX9_mayBePiece 10 = .ok (.iaload, 1) := by decide +kernel
theorem dX9_mayBePiece_11 : decode cX9_mayBePiece 11 = .ok (.aload_n 0, 1) := by decide +kernel
theorem dX9_mayBePiece_12 : decode cX9_mayBePiece 12 = .ok (.getfield 15, 3) := by decide +kernel
theorem dX9_mayBePiece_15 : decode cX9_mayBePiece 15 = .ok (.iload_n 2, 1) := by decide +kernel
theorem dX9_mayBePiece_16 : decode cX9_mayBePiece 16 = .ok (.iaload, 1) := by decide +kernel
theorem dX9_mayBePiece_17 : decode cX9_mayBePiece 17 = .ok (.ior, 1) := by decide +kernel
theorem dX9_mayBePiece_18 : decode cX9_mayBePiece 18 = .ok (.bipush 127, 2) := by decide +kernel
theorem dX9_mayBePiece_20 : decode cX9_mayBePiece 20 = .ok (.iand, 1) := by decide +kernel
theorem dX9_mayBePiece_21 : decode cX9_mayBePiece 21 = .ok (.ifCond .eq 5, 3) := by decide +kernel
theorem dX9_mayBePiece_24 : decode cX9_mayBePiece 24 = .ok (.iconst 1, 1) := by decide +kernel
theorem dX9_mayBePiece_25 : decode cX9_mayBePiece 25 = .ok (.ireturn, 1) := by decide +kernel
theorem dX9_mayBePiece_26 : decode cX9_mayBePiece 26 = .ok (.iload_n 2, 1) := by decide +kernel
theorem dX9_mayBePiece_27 : decode cX9_mayBePiece 27 = .ok (.iload_n 1, 1) := by decide +kernel
theorem dX9_mayBePiece_28 : decode cX9_mayBePiece 28 = .ok (.isub, 1) := by decide +kernel
theorem dX9_mayBePiece_29 : decode cX9_mayBePiece 29 = .ok (.iconst 2, 1) := by decide +kernel
theorem dX9_mayBePiece_30 : decode cX9_mayBePiece 30 = .ok (.if_icmp .lt 31, 3) := by decide +kernel
theorem dX9_mayBePiece_33 : decode cX9_mayBePiece 33 = .ok (.aload_n 0, 1) := by decide +kernel
theorem dX9_mayBePiece_34 : decode cX9_mayBePiece 34 = .ok (.iload_n 2, 1) := by decide +kernel
theorem dX9_mayBePiece_35 : decode cX9_mayBePiece 35 = .ok (.iconst 1, 1) := by decide +kernel
theorem dX9_mayBePiece_36 : decode cX9_mayBePiece 36 = .ok (.isub, 1) := by decide +kernel
theorem dX9_mayBePiece_37 : decode cX9_mayBePiece 37 = .ok (.bipush 7, 2) := by decide +kernel
theorem dX9_mayBePiece_39 : decode cX9_mayBePiece 39 = .ok (.invokevirtual 88, 3) := by decide +kernel
theorem dX9_mayBePiece_42 : decode cX9_mayBePiece 42 = .ok (.ifCond .ne 15, 3) := by decide +kernel
theorem dX9_mayBePiece_45 : decode cX9_mayBePiece 45 = .ok (.aload_n 0, 1) := by decide +kernel
theorem dX9_mayBePiece_46 : decode cX9_mayBePiece 46 = .ok (.iload_n 1, 1) := by decide +kernel
theorem dX9_mayBePiece_47 : decode cX9_mayBePiece 47 = .ok (.iconst 1, 1) := by decide +kernel
theorem dX9_mayBePiece_48 : decode cX9_mayBePiece 48 = .ok (.iadd, 1) := by decide +kernel
theorem dX9_mayBePiece_49 : decode cX9_mayBePiece 49 = .ok (.bipush 8, 2) := by decide +kernel
theorem dX9_mayBePiece_51 : decode cX9_mayBePiece 51 = .ok (.invokevirtual 88, 3) := by decide +kernel
theorem dX9_mayBePiece_54 : decode cX9_mayBePiece 54 = .ok (.ifCond .eq 7, 3) := by decide +kernel
theorem dX9_mayBePiece_57 : decode cX9_mayBePiece 57 = .ok (.iconst 1, 1) := by decide +kernel
theorem dX9_mayBePiece_58 : decode cX9_mayBePiece 58 = .ok (.goto 4, 3) := by decide +kernel
theorem dX9_mayBePiece_61 : decode cX9_mayBePiece 61 = .ok (.iconst 0, 1) := by decide +kernel
theorem dX9_mayBePiece_62 : decode cX9_mayBePiece 62 = .ok (.ireturn, 1) := by decide +kernel
set_option maxRecDepth 20000 in
theorem E_X9_mayBePiece {G : xG} {l : Launch} {d : Nat} {P : Int → xMem → Prop} {v1 v2 : Int} {μ : xMem} (h : (iR v1 ∧ iR v2 ∧ (v1 = v2 → P 1 μ) ∧ (v1 ≠ v2 → ((0 ≤ v1 ∧ v1 < 8) ∧ ((0 ≤ v2 ∧ v2 < 8) ∧ (((jand (jor (μ 35 v1) (μ 35 v2)) 127) = 0 → (iR (v2 - v1) ∧ ((v2 - v1) < 2 → P 0 μ) ∧ (2 ≤ (v2 - v1) → CI G l d mX9_isSign [xr G 33, xi (v2 - 1), xi 7] μ (fun r12 m13 => ((r12 ≠ 0 → P 1 m13) ∧ (r12 = 0 → CI G l d mX9_isSign [xr G 33, xi (v1 + 1), xi 8] m13 (fun r16 m17 => ((r16 = 0 → P 0 m17) ∧ (r16 ≠ 0 → P 1 m17))))))))) ∧ ((jand (jor (μ 35 v1) (μ 35 v2)) 127) ≠ 0 → P 1 μ))))))) : CI G l (d + 1) mX9_mayBePiece [xr G 33, xi v1, xi v2] μ P := by
  refine CC.ofRR (ll := [some (xr G 33), some (xi v1), some (xi v2)]) (by decide +kernel) (Nat.le_of_ble_eq_true rfl) rfl (fun h => by cases h) ?_
  refine xr_iload_n dX9_mayBePiece_0 rfl ?_
  refine xr_iload_n dX9_mayBePiece_1 rfl ?_
  obtain ⟨q1, q2, hT3, hF4⟩ := h
  refine xr_icmp_eq (tgt := 24) dX9_mayBePiece_2 (by decide) q1 q2 (fun c => ?_) (fun c => ?_)
  · have h := hT3 c
    refine xr_iconst dX9_mayBePiece_24 ?_
    exact xr_zret dX9_mayBePiece_25 rfl (x_nz (by decide)).1 ⟨rfl, _, rfl, x_01 (by decide), h⟩
  · have h := hF4 c
    refine xr_aload_n dX9_mayBePiece_5 rfl ?_
    refine xr_getR dX9_mayBePiece_6 fl_X9_15 L_33 rfl ?_
    refine xr_iload_n dX9_mayBePiece_9 rfl ?_
    obtain ⟨q5, h⟩ := h
    refine xr_iaload' (v := μ 35 v1) dX9_mayBePiece_10 L_35 rfl (by decide) q5 rfl ?_
    refine xr_aload_n dX9_mayBePiece_11 rfl ?_
    refine xr_getR dX9_mayBePiece_12 fl_X9_15 L_33 rfl ?_
    refine xr_iload_n dX9_mayBePiece_15 rfl ?_
    obtain ⟨q6, h⟩ := h
    refine xr_iaload' (v := μ 35 v2) dX9_mayBePiece_16 L_35 rfl (by decide) q6 rfl ?_
    refine xr_ior dX9_mayBePiece_17 ?_
    refine xr_bipush dX9_mayBePiece_18 (by decide) ?_
    refine xr_iand dX9_mayBePiece_20 ?_
    obtain ⟨hT7, hF8⟩ := h
    refine xr_if_eq (tgt := 26) dX9_mayBePiece_21 (by decide) (jR_and _ _)  (fun c => ?_) (fun c => ?_)
    · have h := hT7 c
      refine xr_iload_n dX9_mayBePiece_26 rfl ?_
      refine xr_iload_n dX9_mayBePiece_27 rfl ?_
      refine xr_isub dX9_mayBePiece_28 ?_
      refine xr_iconst dX9_mayBePiece_29 ?_
      obtain ⟨q9, hT10, hF11⟩ := h
      refine xr_icmp_lt (tgt := 61) dX9_mayBePiece_30 (by decide) q9 (by decide) (fun c => ?_) (fun c => ?_)
      · have h := hT10 c
        refine xr_iconst dX9_mayBePiece_61 ?_
        exact xr_zret dX9_mayBePiece_62 rfl (x_nz (by decide)).1 ⟨rfl, _, rfl, x_01 (by decide), h⟩
      · have h := hF11 (Int.not_lt.mp c)
        refine xr_aload_n dX9_mayBePiece_33 rfl ?_
        refine xr_iload_n dX9_mayBePiece_34 rfl ?_
        refine xr_iconst dX9_mayBePiece_35 ?_
        refine xr_isub dX9_mayBePiece_36 ?_
        refine xr_bipush dX9_mayBePiece_37 (by decide) ?_
        refine xr_cvI (As := [xi (v2 - 1), xi 7]) dX9_mayBePiece_39 mi_X9_isSign ml_X9_88 se_X9_isSign L_33 rfl rfl rfl (Nat.le_of_ble_eq_true rfl) h (fun r12 m13 hr12 h => ?_)
        obtain ⟨hT14, hF15⟩ := h
        refine xr_if_ne (tgt := 57) dX9_mayBePiece_42 (by decide) hr12  (fun c => ?_) (fun c => ?_)
        · have h := hT14 c
          refine xr_iconst dX9_mayBePiece_57 ?_
          refine xr_goto (tgt := 62) dX9_mayBePiece_58 (by decide) ?_
          exact xr_zret dX9_mayBePiece_62 rfl (x_nz (by decide)).1 ⟨rfl, _, rfl, x_01 (by decide), h⟩
        · have h := hF15 c
          refine xr_aload_n dX9_mayBePiece_45 rfl ?_
          refine xr_iload_n dX9_mayBePiece_46 rfl ?_
          refine xr_iconst dX9_mayBePiece_47 ?_
          refine xr_iadd dX9_mayBePiece_48 ?_
          refine xr_bipush dX9_mayBePiece_49 (by decide) ?_
          refine xr_cvI (As := [xi (v1 + 1), xi 8]) dX9_mayBePiece_51 mi_X9_isSign ml_X9_88 se_X9_isSign L_33 rfl rfl rfl (Nat.le_of_ble_eq_true rfl) h (fun r16 m17 hr16 h => ?_)
          obtain ⟨hT18, hF19⟩ := h
          refine xr_if_eq (tgt := 61) dX9_mayBePiece_54 (by decide) hr16  (fun c => ?_) (fun c => ?_)
          · have h := hT18 c
            refine xr_iconst dX9_mayBePiece_61 ?_
            exact xr_zret dX9_mayBePiece_62 rfl (x_nz (by decide)).1 ⟨rfl, _, rfl, x_01 (by decide), h⟩
          · have h := hF19 c
            refine xr_iconst dX9_mayBePiece_57 ?_
            refine xr_goto (tgt := 62) dX9_mayBePiece_58 (by decide) ?_
            exact xr_zret dX9_mayBePiece_62 rfl (x_nz (by decide)).1 ⟨rfl, _, rfl, x_01 (by decide), h⟩
    · have h := hF8 c
      refine xr_iconst dX9_mayBePiece_24 ?_
      exact xr_zret dX9_mayBePiece_25 rfl (x_nz (by decide)).1 ⟨rfl, _, rfl, x_01 (by decide), h⟩
theorem dX9_aimAt_0 : decode cX9_aimAt 0 = .ok (.iload_n 1, 1) := by decide +kernel
theorem dX9_aimAt_1 : decode cX9_aimAt 1 = .ok (.bipush 10, 2) := by decide +kernel
theorem dX9_aimAt_3 : decode cX9_aimAt 3 = .ok (.imul, 1) := by decide +kernel
theorem dX9_aimAt_4 : decode cX9_aimAt 4 = .ok (.istore 6, 2) := by decide +kernel
theorem dX9_aimAt_6 : decode cX9_aimAt 6 = .ok (.aload_n 0, 1) := by decide +kernel
theorem dX9_aimAt_7 : decode cX9_aimAt 7 = .ok (.iconst 0, 1) := by decide +kernel
theorem dX9_aimAt_8 : decode cX9_aimAt 8 = .ok (.putfield 92, 3) := by decide +kernel
theorem dX9_aimAt_11 : decode cX9_aimAt 11 = .ok (.iload_n 2, 1) := by decide +kernel
theorem dX9_aimAt_12 : decode cX9_aimAt 12 = .ok (.istore 7, 2) := by decide +kernel
theorem dX9_aimAt_14 : decode cX9_aimAt 14 = .ok (.iload 7, 2) := by decide +kernel
theorem dX9_aimAt_16 : decode cX9_aimAt 16 = .ok (.iload 5, 2) := by decide +kernel
theorem dX9_aimAt_18 : decode cX9_aimAt 18 = .ok (.if_icmp .ge 51, 3) := by decide +kernel
theorem dX9_aimAt_21 : decode cX9_aimAt 21 = .ok (.iload 7, 2) := by decide +kernel
theorem dX9_aimAt_23 : decode cX9_aimAt 23 = .ok (.iload_n 3, 1) := by decide +kernel
theorem dX9_aimAt_24 : decode cX9_aimAt 24 = .ok (.if_icmp .lt 10, 3) := by decide +kernel
theorem dX9_aimAt_27 : decode cX9_aimAt 27 = .ok (.iload 7, 2) := by decide +kernel
theorem dX9_aimAt_29 : decode cX9_aimAt 29 = .ok (.iload 4, 2) := by decide +kernel
theorem dX9_aimAt_31 : decode cX9_aimAt 31 = .ok (.if_icmp .lt 32, 3) := by decide +kernel
theorem dX9_aimAt_34 : decode cX9_aimAt 34 = .ok (.aload_n 0, 1) := by decide +kernel
theorem dX9_aimAt_35 : decode cX9_aimAt 35 = .ok (.getfield 27, 3) := by decide +kernel
theorem dX9_aimAt_38 : decode cX9_aimAt 38 = .ok (.aload_n 0, 1) := by decide +kernel
theorem dX9_aimAt_39 : decode cX9_aimAt 39 = .ok (.getfield 92, 3) := by decide +kernel
theorem dX9_aimAt_42 : decode cX9_aimAt 42 = .ok (.aload_n 0, 1) := by decide +kernel
theorem dX9_aimAt_43 : decode cX9_aimAt 43 = .ok (.getfield 24, 3) := by decide +kernel
theorem dX9_aimAt_46 : decode cX9_aimAt 46 = .ok (.iload 6, 2) := by decide +kernel
theorem dX9_aimAt_48 : decode cX9_aimAt 48 = .ok (.iload 7, 2) := by decide +kernel
theorem dX9_aimAt_50 : decode cX9_aimAt 50 = .ok (.iadd, 1) := by decide +kernel
theorem dX9_aimAt_51 : decode cX9_aimAt 51 = .ok (.iaload, 1) := by decide +kernel
theorem dX9_aimAt_52 : decode cX9_aimAt 52 = .ok (.iastore, 1) := by decide +kernel
theorem dX9_aimAt_53 : decode cX9_aimAt 53 = .ok (.aload_n 0, 1) := by decide +kernel
theorem dX9_aimAt_54 : decode cX9_aimAt 54 = .ok (.dup, 1) := by decide +kernel
theorem dX9_aimAt_55 : decode cX9_aimAt 55 = .ok (.getfield 92, 3) := by decide +kernel
theorem dX9_aimAt_58 : decode cX9_aimAt 58 = .ok (.iconst 1, 1) := by decide +kernel
theorem dX9_aimAt_59 : decode cX9_aimAt 59 = .ok (.iadd, 1) := by decide +kernel
theorem dX9_aimAt_60 : decode cX9_aimAt 60 = .ok (.putfield 92, 3) := by decide +kernel
theorem dX9_aimAt_63 : decode cX9_aimAt 63 = .ok (.iinc 7 1, 3) := by decide +kernel
theorem dX9_aimAt_66 : decode cX9_aimAt 66 = .ok (.goto (-52), 3) := by decide +kernel
theorem dX9_aimAt_69 : decode cX9_aimAt 69 = .ok (.return_, 1) := by decide +kernel
def K_X9_aimAt_14 (G : xG) (l : Launch) (d : Nat) (P : xMem → Prop) (v3 v4 v5 v6 v7 : Int) (μ : xMem) : Prop := RR G l d 0 0 false mX9_aimAt (qV P) 14 [some (xr G 33), none, none, some (xi v3), some (xi v4), some (xi v5), some (xi v6), some (xi v7)] [] LAY μ 0 0
def K_X9_aimAt_34 (G : xG) (l : Launch) (d : Nat) (P : xMem → Prop) (v3 v4 v5 v6 v7 : Int) (μ : xMem) : Prop := RR G l d 0 0 false mX9_aimAt (qV P) 34 [some (xr G 33), none, none, some (xi v3), some (xi v4), some (xi v5), some (xi v6), some (xi v7)] [] LAY μ 0 0
set_option maxRecDepth 20000 in
theorem E_X9_aimAt {G : xG} {l : Launch} {d : Nat} {P : xMem → Prop} {v1 v2 v3 v4 v5 : Int} {μ : xMem} (h : K_X9_aimAt_14 G l (d + 1) P v3 v4 v5 (v1 * 10) v2 (st2 μ 33 10 0)) : CV G l (d + 1) mX9_aimAt [xr G 33, xi v1, xi v2, xi v3, xi v4, xi v5] μ P := by
  refine CC.ofRR (ll := [some (xr G 33), some (xi v1), some (xi v2), some (xi v3), some (xi v4), some (xi v5), none, none]) (by decide +kernel) (Nat.le_of_ble_eq_true rfl) rfl (fun h => by cases h) ?_
  refine xr_iload_n dX9_aimAt_0 rfl ?_
  refine xr_bipush dX9_aimAt_1 (by decide) ?_
  refine xr_imul dX9_aimAt_3 ?_
  refine xr_istore' (ll' := [some (xr G 33), some (xi v1), some (xi v2), some (xi v3), some (xi v4), some (xi v5), some (xi (v1 * 10)), none]) dX9_aimAt_4 (by decide) rfl rfl ?_
  refine xr_aload_n dX9_aimAt_6 rfl ?_
  refine xr_iconst dX9_aimAt_7 ?_
  refine xr_putI dX9_aimAt_8 fp_X9_92 L_33 rfl rfl ⟨rfl, rfl⟩ ?_
  refine xr_iload_n dX9_aimAt_11 rfl ?_
  refine xr_istore' (ll' := [some (xr G 33), some (xi v1), some (xi v2), some (xi v3), some (xi v4), some (xi v5), some (xi (v1 * 10)), some (xi v2)]) dX9_aimAt_12 (by decide) rfl rfl ?_
  refine xr_wk (ll' := [some (xr G 33), none, none, some (xi v3), some (xi v4), some (xi v5), some (xi (v1 * 10)), some (xi v2)]) ⟨rfl, ⟨rfl, ⟨rfl, ⟨rfl, ⟨rfl, ⟨rfl, trivial⟩⟩⟩⟩⟩⟩ ?_
  exact h
set_option maxRecDepth 20000 in
theorem B_X9_aimAt_14 {G : xG} {l : Launch} {d : Nat} {P : xMem → Prop} {v3 v4 v5 v6 v7 : Int} {μ : xMem} (h : (iR v7 ∧ iR v5 ∧ (v5 ≤ v7 → P μ) ∧ (v7 < v5 → (iR v3 ∧ (v7 < v3 → K_X9_aimAt_34 G l (d + 1) P v3 v4 v5 v6 v7 μ) ∧ (v3 ≤ v7 → (iR v4 ∧ (v7 < v4 → K_X9_aimAt_14 G l (d + 1) P v3 v4 v5 v6 (v7 + 1) μ) ∧ (v4 ≤ v7 → K_X9_aimAt_34 G l (d + 1) P v3 v4 v5 v6 v7 μ))))))) : K_X9_aimAt_14 G l (d + 1) P v3 v4 v5 v6 v7 μ := by
  unfold K_X9_aimAt_14
  refine xr_iload dX9_aimAt_14 rfl ?_
  refine xr_iload dX9_aimAt_16 rfl ?_
  obtain ⟨q1, q2, hT3, hF4⟩ := h
  refine xr_icmp_ge (tgt := 69) dX9_aimAt_18 (by decide) q1 q2 (fun c => ?_) (fun c => ?_)
  · have h := hT3 c
    exact xr_ret dX9_aimAt_69 rfl ⟨rfl, rfl, h⟩
  · have h := hF4 (Int.not_le.mp c)
    refine xr_iload dX9_aimAt_21 rfl ?_
    refine xr_iload_n dX9_aimAt_23 rfl ?_
    obtain ⟨q5, hT6, hF7⟩ := h
    refine xr_icmp_lt (tgt := 34) dX9_aimAt_24 (by decide) q1 q5 (fun c => ?_) (fun c => ?_)
    · have h := hT6 c
      exact h
    · have h := hF7 (Int.not_lt.mp c)
      refine xr_iload dX9_aimAt_27 rfl ?_
      refine xr_iload dX9_aimAt_29 rfl ?_
      obtain ⟨q8, hT9, hF10⟩ := h
      refine xr_icmp_lt (tgt := 63) dX9_aimAt_31 (by decide) q1 q8 (fun c => ?_) (fun c => ?_)
      · have h := hT9 c
        refine xr_iinc' (ll' := [some (xr G 33), none, none, some (xi v3), some (xi v4), some (xi v5), some (xi v6), some (xi (v7 + 1))]) dX9_aimAt_63 rfl (by decide) rfl rfl ?_
        refine xr_goto (tgt := 14) dX9_aimAt_66 (by decide) ?_
        exact h
      · have h := hF10 (Int.not_lt.mp c)
        exact h
set_option maxRecDepth 20000 in
theorem B_X9_aimAt_34 {G : xG} {l : Launch} {d : Nat} {P : xMem → Prop} {v3 v4 v5 v6 v7 : Int} {μ : xMem} (h : ((0 ≤ v6 + v7 ∧ v6 + v7 < 20) ∧ ((0 ≤ μ 33 10 ∧ μ 33 10 < 10) ∧ K_X9_aimAt_14 G l (d + 1) P v3 v4 v5 v6 (v7 + 1) (st2 (st2 μ 39 (μ 33 10) (μ 38 (v6 + v7))) 33 10 ((μ 33 10) + 1))))) : K_X9_aimAt_34 G l (d + 1) P v3 v4 v5 v6 v7 μ := by
  unfold K_X9_aimAt_34
  refine xr_aload_n dX9_aimAt_34 rfl ?_
  refine xr_getR dX9_aimAt_35 fl_X9_27 L_33 rfl ?_
  refine xr_aload_n dX9_aimAt_38 rfl ?_
  refine xr_getI' (v := μ 33 10) dX9_aimAt_39 fl_X9_92 L_33 rfl rfl rfl ?_
  refine xr_aload_n dX9_aimAt_42 rfl ?_
  refine xr_getR dX9_aimAt_43 fl_X9_24 L_33 rfl ?_
  refine xr_iload dX9_aimAt_46 rfl ?_
  refine xr_iload dX9_aimAt_48 rfl ?_
  refine xr_iadd dX9_aimAt_50 ?_
  obtain ⟨q1, h⟩ := h
  refine xr_iaload' (v := μ 38 (v6 + v7)) dX9_aimAt_51 L_38 rfl (by decide) q1 rfl ?_
  obtain ⟨q2, h⟩ := h
  refine xr_iastore dX9_aimAt_52 L_39 rfl (by decide) q2 ?_
  refine xr_aload_n dX9_aimAt_53 rfl ?_
  refine xr_dup dX9_aimAt_54 rfl ?_
  refine xr_getI' (v := μ 33 10) dX9_aimAt_55 fl_X9_92 L_33 rfl rfl (by simp [st2, cpy]) ?_
  refine xr_iconst dX9_aimAt_58 ?_
  refine xr_iadd dX9_aimAt_59 ?_
  refine xr_putI dX9_aimAt_60 fp_X9_92 L_33 rfl rfl ⟨rfl, rfl⟩ ?_
  refine xr_iinc' (ll' := [some (xr G 33), none, none, some (xi v3), some (xi v4), some (xi v5), some (xi v6), some (xi (v7 + 1))]) dX9_aimAt_63 rfl (by decide) rfl rfl ?_
  refine xr_goto (tgt := 14) dX9_aimAt_66 (by decide) ?_
  exact h
theorem dX9_isOwn_0 : decode cX9_isOwn 0 = .ok (.aload_n 0, 1) := by decide +kernel
theorem dX9_isOwn_1 : decode cX9_isOwn 1 = .ok (.getfield 9, 3) := by decide +kernel
theorem dX9_isOwn_4 : decode cX9_isOwn 4 = .ok (.iload_n 1, 1) := by decide +kernel
theorem dX9_isOwn_5 : decode cX9_isOwn 5 = .ok (.iaload, 1) := by decide +kernel
theorem dX9_isOwn_6 : decode cX9_isOwn 6 = .ok (.istore 4, 2) := by decide +kernel
theorem dX9_isOwn_8 : decode cX9_isOwn 8 = .ok (.aload_n 0, 1) := by decide +kernel
theorem dX9_isOwn_9 : decode cX9_isOwn 9 = .ok (.getfield 30, 3) := by decide +kernel
theorem dX9_isOwn_12 : decode cX9_isOwn 12 = .ok (.getfield 62, 3) := by decide +kernel
theorem dX9_isOwn_15 : decode cX9_isOwn 15 = .ok (.iload 4, 2) := by decide +kernel
theorem dX9_isOwn_17 : decode cX9_isOwn 17 = .ok (.iaload, 1) := by decide +kernel
theorem dX9_isOwn_18 : decode cX9_isOwn 18 = .ok (.iload_n 2, 1) := by decide +kernel
theorem dX9_isOwn_19 : decode cX9_isOwn 19 = .ok (.aload_n 0, 1) := by decide +kernel
theorem dX9_isOwn_20 : decode cX9_isOwn 20 = .ok (.getfield 92, 3) := by decide +kernel
theorem dX9_isOwn_23 : decode cX9_isOwn 23 = .ok (.iadd, 1) := by decide +kernel
theorem dX9_isOwn_24 : decode cX9_isOwn 24 = .ok (.iload_n 3, 1) := by decide +kernel
theorem dX9_isOwn_25 : decode cX9_isOwn 25 = .ok (.iadd, 1) := by decide +kernel
theorem dX9_isOwn_26 : decode cX9_isOwn 26 = .ok (.if_icmp .ne 29, 3) := by decide +kernel
theorem dX9_isOwn_29 : decode cX9_isOwn 29 = .ok (.aload_n 0, 1) := by decide +kernel
theorem dX9_isOwn_30 : decode cX9_isOwn 30 = .ok (.getfield 30, 3) := by decide +kernel
theorem dX9_isOwn_33 : decode cX9_isOwn 33 = .ok (.iload 4, 2) := by decide +kernel
theorem dX9_isOwn_35 : decode cX9_isOwn 35 = .ok (.iload_n 2, 1) := by decide +kernel
theorem dX9_isOwn_36 : decode cX9_isOwn 36 = .ok (.aload_n 0, 1) := by decide +kernel
theorem dX9_isOwn_37 : decode cX9_isOwn 37 = .ok (.getfield 27, 3) := by decide +kernel
theorem dX9_isOwn_40 : decode cX9_isOwn 40 = .ok (.iconst 0, 1) := by decide +kernel
theorem dX9_isOwn_41 : decode cX9_isOwn 41 = .ok (.aload_n 0, 1) := by decide +kernel
theorem dX9_isOwn_42 : decode cX9_isOwn 42 = .ok (.getfield 92, 3) := by decide +kernel
theorem dX9_isOwn_45 : decode cX9_isOwn 45 = .ok (.invokevirtual 95, 3) := by decide +kernel
theorem dX9_isOwn_48 : decode cX9_isOwn 48 = .ok (.ifCond .eq 7, 3) := by decide +kernel
theorem dX9_isOwn_51 : decode cX9_isOwn 51 = .ok (.iconst 1, 1) := by decide +kernel
theorem dX9_isOwn_52 : decode cX9_isOwn 52 = .ok (.goto 4, 3) := by decide +kernel
theorem dX9_isOwn_55 : decode cX9_isOwn 55 = .ok (.iconst 0, 1) := by decide +kernel
theorem dX9_isOwn_56 : decode cX9_isOwn 56 = .ok (.ireturn, 1) := by decide +kernel
set_option maxRecDepth 20000 in
theorem E_X9_isOwn {G : xG} {l : Launch} {d : Nat} {P : Int → xMem → Prop} {v1 v2 v3 : Int} {μ : xMem} (h : ((0 ≤ v1 ∧ v1 < 8) ∧ ((0 ≤ μ 34 v1 ∧ μ 34 v1 < 120) ∧ (iR (μ 14 (μ 34 v1)) ∧ iR ((v2 + (μ 33 10)) + v3) ∧ ((μ 14 (μ 34 v1)) ≠ ((v2 + (μ 33 10)) + v3) → P 0 μ) ∧ ((μ 14 (μ 34 v1)) = ((v2 + (μ 33 10)) + v3) → CI G l d mX3_isSpelled [xr G 3, xi (μ 34 v1), xi v2, xr G 39, xi 0, xi (μ 33 10)] μ (fun r7 m8 => ((r7 = 0 → P 0 m8) ∧ (r7 ≠ 0 → P 1 m8)))))))) : CI G l (d + 1) mX9_isOwn [xr G 33, xi v1, xi v2, xi v3] μ P := by
  refine CC.ofRR (ll := [some (xr G 33), some (xi v1), some (xi v2), some (xi v3), none]) (by decide +kernel) (Nat.le_of_ble_eq_true rfl) rfl (fun h => by cases h) ?_
  refine xr_aload_n dX9_isOwn_0 rfl ?_
  refine xr_getR dX9_isOwn_1 fl_X9_9 L_33 rfl ?_
  refine xr_iload_n dX9_isOwn_4 rfl ?_
  obtain ⟨q1, h⟩ := h
  refine xr_iaload' (v := μ 34 v1) dX9_isOwn_5 L_34 rfl (by decide) q1 rfl ?_
  refine xr_istore' (ll' := [some (xr G 33), some (xi v1), some (xi v2), some (xi v3), some (xi (μ 34 v1))]) dX9_isOwn_6 (by decide) rfl rfl ?_
  refine xr_aload_n dX9_isOwn_8 rfl ?_
  refine xr_getR dX9_isOwn_9 fl_X9_30 L_33 rfl ?_
  refine xr_getR dX9_isOwn_12 fl_X9_62 L_3 rfl ?_
  refine xr_iload dX9_isOwn_15 rfl ?_
  obtain ⟨q2, h⟩ := h
  refine xr_iaload' (v := μ 14 (μ 34 v1)) dX9_isOwn_17 L_14 rfl (by decide) q2 rfl ?_
  refine xr_iload_n dX9_isOwn_18 rfl ?_
  refine xr_aload_n dX9_isOwn_19 rfl ?_
  refine xr_getI' (v := μ 33 10) dX9_isOwn_20 fl_X9_92 L_33 rfl rfl rfl ?_
  refine xr_iadd dX9_isOwn_23 ?_
  refine xr_iload_n dX9_isOwn_24 rfl ?_
  refine xr_iadd dX9_isOwn_25 ?_
  obtain ⟨q3, q4, hT5, hF6⟩ := h
  refine xr_icmp_ne (tgt := 55) dX9_isOwn_26 (by decide) q3 q4 (fun c => ?_) (fun c => ?_)
  · have h := hT5 c
    refine xr_iconst dX9_isOwn_55 ?_
    exact xr_zret dX9_isOwn_56 rfl (x_nz (by decide)).1 ⟨rfl, _, rfl, x_01 (by decide), h⟩
  · have h := hF6 c
    refine xr_aload_n dX9_isOwn_29 rfl ?_
    refine xr_getR dX9_isOwn_30 fl_X9_30 L_33 rfl ?_
    refine xr_iload dX9_isOwn_33 rfl ?_
    refine xr_iload_n dX9_isOwn_35 rfl ?_
    refine xr_aload_n dX9_isOwn_36 rfl ?_
    refine xr_getR dX9_isOwn_37 fl_X9_27 L_33 rfl ?_
    refine xr_iconst dX9_isOwn_40 ?_
    refine xr_aload_n dX9_isOwn_41 rfl ?_
    refine xr_getI' (v := μ 33 10) dX9_isOwn_42 fl_X9_92 L_33 rfl rfl rfl ?_
    refine xr_cvI (As := [xi (μ 34 v1), xi v2, xr G 39, xi 0, xi (μ 33 10)]) dX9_isOwn_45 mi_X3_isSpelled ml_X9_95 se_X3_isSpelled L_3 rfl rfl rfl (Nat.le_of_ble_eq_true rfl) h (fun r7 m8 hr7 h => ?_)
    obtain ⟨hT9, hF10⟩ := h
    refine xr_if_eq (tgt := 55) dX9_isOwn_48 (by decide) hr7  (fun c => ?_) (fun c => ?_)
    · have h := hT9 c
      refine xr_iconst dX9_isOwn_55 ?_
      exact xr_zret dX9_isOwn_56 rfl (x_nz (by decide)).1 ⟨rfl, _, rfl, x_01 (by decide), h⟩
    · have h := hF10 c
      refine xr_iconst dX9_isOwn_51 ?_
      refine xr_goto (tgt := 56) dX9_isOwn_52 (by decide) ?_
      exact xr_zret dX9_isOwn_56 rfl (x_nz (by decide)).1 ⟨rfl, _, rfl, x_01 (by decide), h⟩
theorem dX9_countMeant_0 : decode cX9_countMeant 0 = .ok (.iload_n 2, 1) := by decide +kernel
theorem dX9_countMeant_1 : decode cX9_countMeant 1 = .ok (.aload_n 0, 1) := by decide +kernel
theorem dX9_countMeant_2 : decode cX9_countMeant 2 = .ok (.getfield 92, 3) := by decide +kernel
theorem dX9_countMeant_5 : decode cX9_countMeant 5 = .ok (.iadd, 1) := by decide +kernel
theorem dX9_countMeant_6 : decode cX9_countMeant 6 = .ok (.iload_n 3, 1) := by decide +kernel
theorem dX9_countMeant_7 : decode cX9_countMeant 7 = .ok (.iadd, 1) := by decide +kernel
theorem dX9_countMeant_8 : decode cX9_countMeant 8 = .ok (.istore 4, 2) := by decide +kernel
theorem dX9_countMeant_10 : decode cX9_countMeant 10 = .ok (.iload 4, 2) := by decide +kernel
theorem dX9_countMeant_12 : decode cX9_countMeant 12 = .ok (.bipush 10, 2) := by decide +kernel
theorem dX9_countMeant_14 : decode cX9_countMeant 14 = .ok (.if_icmp .le 5, 3) := by decide +kernel
theorem dX9_countMeant_17 : decode cX9_countMeant 17 = .ok (.iconst 0, 1) := by decide +kernel
theorem dX9_countMeant_18 : decode cX9_countMeant 18 = .ok (.ireturn, 1) := by decide +kernel
theorem dX9_countMeant_19 : decode cX9_countMeant 19 = .ok (.iconst 0, 1) := by decide +kernel
theorem dX9_countMeant_20 : decode cX9_countMeant 20 = .ok (.istore 5, 2) := by decide +kernel
theorem dX9_countMeant_22 : decode cX9_countMeant 22 = .ok (.aload_n 0, 1) := by decide +kernel
theorem dX9_countMeant_23 : decode cX9_countMeant 23 = .ok (.getfield 30, 3) := by decide +kernel
theorem dX9_countMeant_26 : decode cX9_countMeant 26 = .ok (.getfield 99, 3) := by decide +kernel
theorem dX9_countMeant_29 : decode cX9_countMeant 29 = .ok (.aload_n 0, 1) := by decide +kernel
theorem dX9_countMeant_30 : decode cX9_countMeant 30 = .ok (.getfield 30, 3) := by decide +kernel
theorem dX9_countMeant_33 : decode cX9_countMeant 33 = .ok (.aload_n 0, 1) := by decide +kernel
theorem dX9_countMeant_34 : decode cX9_countMeant 34 = .ok (.getfield 9, 3) := by decide +kernel
theorem dX9_countMeant_37 : decode cX9_countMeant 37 = .ok (.iload_n 1, 1) := by decide +kernel
theorem dX9_countMeant_38 : decode cX9_countMeant 38 = .ok (.iaload, 1) := by decide +kernel
theorem dX9_countMeant_39 : decode cX9_countMeant 39 = .ok (.iload 4, 2) := by decide +kernel
theorem dX9_countMeant_41 : decode cX9_countMeant 41 = .ok (.invokevirtual 102, 3) := by decide +kernel
theorem dX9_countMeant_44 : decode cX9_countMeant 44 = .ok (.iaload, 1) := by decide +kernel
theorem dX9_countMeant_45 : decode cX9_countMeant 45 = .ok (.istore 6, 2) := by decide +kernel
theorem dX9_countMeant_47 : decode cX9_countMeant 47 = .ok (.iconst 0, 1) := by decide +kernel
theorem dX9_countMeant_48 : decode cX9_countMeant 48 = .ok (.istore 7, 2) := by decide +kernel
theorem dX9_countMeant_50 : decode cX9_countMeant 50 = .ok (.iload 7, 2) := by decide +kernel
theorem dX9_countMeant_52 : decode cX9_countMeant 52 = .ok (.sipush 240, 3) := by decide +kernel
theorem dX9_countMeant_55 : decode cX9_countMeant 55 = .ok (.if_icmp .ge 69, 3) := by decide +kernel
theorem dX9_countMeant_58 : decode cX9_countMeant 58 = .ok (.iload 6, 2) := by decide +kernel
theorem dX9_countMeant_60 : decode cX9_countMeant 60 = .ok (.iconst (-1), 1) := by decide +kernel
theorem dX9_countMeant_61 : decode cX9_countMeant 61 = .ok (.if_icmp .eq 63, 3) := by decide +kernel
theorem dX9_countMeant_64 : decode cX9_countMeant 64 = .ok (.iload 6, 2) := by decide +kernel
theorem dX9_countMeant_66 : decode cX9_countMeant 66 = .ok (.aload_n 0, 1) := by decide +kernel
theorem dX9_countMeant_67 : decode cX9_countMeant 67 = .ok (.getfield 49, 3) := by decide +kernel
theorem dX9_countMeant_70 : decode cX9_countMeant 70 = .ok (.if_icmp .ge 36, 3) := by decide +kernel
theorem dX9_countMeant_73 : decode cX9_countMeant 73 = .ok (.aload_n 0, 1) := by decide +kernel
theorem dX9_countMeant_74 : decode cX9_countMeant 74 = .ok (.getfield 30, 3) := by decide +kernel
theorem dX9_countMeant_77 : decode cX9_countMeant 77 = .ok (.aload_n 0, 1) := by decide +kernel
theorem dX9_countMeant_78 : decode cX9_countMeant 78 = .ok (.getfield 30, 3) := by decide +kernel
theorem dX9_countMeant_81 : decode cX9_countMeant 81 = .ok (.getfield 105, 3) := by decide +kernel
theorem dX9_countMeant_84 : decode cX9_countMeant 84 = .ok (.iload 6, 2) := by decide +kernel
theorem dX9_countMeant_86 : decode cX9_countMeant 86 = .ok (.iaload, 1) := by decide +kernel
theorem dX9_countMeant_87 : decode cX9_countMeant 87 = .ok (.iload_n 2, 1) := by decide +kernel
theorem dX9_countMeant_88 : decode cX9_countMeant 88 = .ok (.aload_n 0, 1) := by decide +kernel
theorem dX9_countMeant_89 : decode cX9_countMeant 89 = .ok (.getfield 27, 3) := by decide +kernel
theorem dX9_countMeant_92 : decode cX9_countMeant 92 = .ok (.iconst 0, 1) := by decide +kernel
theorem dX9_countMeant_93 : decode cX9_countMeant 93 = .ok (.aload_n 0, 1) := by decide +kernel
theorem dX9_countMeant_94 : decode cX9_countMeant 94 = .ok (.getfield 92, 3) := by decide +kernel
theorem dX9_countMeant_97 : decode cX9_countMeant 97 = .ok (.invokevirtual 95, 3) := by decide +kernel
theorem dX9_countMeant_100 : decode cX9_countMeant 100 = .ok (.ifCond .eq 6, 3) := by decide +kernel
theorem dX9_countMeant_103 : decode cX9_countMeant 103 = .ok (.iinc 5 1, 3) := by decide +kernel
theorem dX9_countMeant_106 : decode cX9_countMeant 106 = .ok (.aload_n 0, 1) := by decide +kernel
theorem dX9_countMeant_107 : decode cX9_countMeant 107 = .ok (.getfield 30, 3) := by decide +kernel
theorem dX9_countMeant_110 : decode cX9_countMeant 110 = .ok (.getfield 108, 3) := by decide +kernel
theorem dX9_countMeant_113 : decode cX9_countMeant 113 = .ok (.iload 6, 2) := by decide +kernel
theorem dX9_countMeant_115 : decode cX9_countMeant 115 = .ok (.iaload, 1) := by decide +kernel
theorem dX9_countMeant_116 : decode cX9_countMeant 116 = .ok (.istore 6, 2) := by decide +kernel
theorem dX9_countMeant_118 : decode cX9_countMeant 118 = .ok (.iinc 7 1, 3) := by decide +kernel
theorem dX9_countMeant_121 : decode cX9_countMeant 121 = .ok (.goto (-71), 3) := by decide +kernel
theorem dX9_countMeant_124 : decode cX9_countMeant 124 = .ok (.iload 5, 2) := by decide +kernel
theorem dX9_countMeant_126 : decode cX9_countMeant 126 = .ok (.ireturn, 1) := by decide +kernel
def K_X9_countMeant_50 (G : xG) (l : Launch) (d : Nat) (P : Int → xMem → Prop) (v2 v5 v6 v7 : Int) (μ : xMem) : Prop := RR G l d 0 0 false mX9_countMeant (qI P) 50 [some (xr G 33), none, some (xi v2), none, none, some (xi v5), some (xi v6), some (xi v7)] [] LAY μ 0 0
def K_X9_countMeant_106 (G : xG) (l : Launch) (d : Nat) (P : Int → xMem → Prop) (v2 v5 v6 v7 : Int) (μ : xMem) : Prop := RR G l d 0 0 false mX9_countMeant (qI P) 106 [some (xr G 33), none, some (xi v2), none, none, some (xi v5), some (xi v6), some (xi v7)] [] LAY μ 0 0
set_option maxRecDepth 20000 in
theorem E_X9_countMeant {G : xG} {l : Launch} {d : Nat} {P : Int → xMem → Prop} {v1 v2 v3 : Int} {μ : xMem} (h : (iR ((v2 + (μ 33 10)) + v3) ∧ (((v2 + (μ 33 10)) + v3) ≤ 10 → ((0 ≤ v1 ∧ v1 < 8) ∧ CI G l d mX3_chainOf [xr G 3, xi (μ 34 v1), xi ((v2 + (μ 33 10)) + v3)] μ (fun r5 m6 => ((0 ≤ r5 ∧ r5 < 1320) ∧ K_X9_countMeant_50 G l (d + 1) P v2 0 (m6 15 r5) 0 m6)))) ∧ (10 < ((v2 + (μ 33 10)) + v3) → P 0 μ))) : CI G l (d + 1) mX9_countMeant [xr G 33, xi v1, xi v2, xi v3] μ P := by
  refine CC.ofRR (ll := [some (xr G 33), some (xi v1), some (xi v2), some (xi v3), none, none, none, none]) (by decide +kernel) (Nat.le_of_ble_eq_true rfl) rfl (fun h => by cases h) ?_
  refine xr_iload_n dX9_countMeant_0 rfl ?_
  refine xr_aload_n dX9_countMeant_1 rfl ?_
  refine xr_getI' (v := μ 33 10) dX9_countMeant_2 fl_X9_92 L_33 rfl rfl rfl ?_
  refine xr_iadd dX9_countMeant_5 ?_
  refine xr_iload_n dX9_countMeant_6 rfl ?_
  refine xr_iadd dX9_countMeant_7 ?_
  refine xr_istore' (ll' := [some (xr G 33), some (xi v1), some (xi v2), some (xi v3), some (xi ((v2 + (μ 33 10)) + v3)), none, none, none]) dX9_countMeant_8 (by decide) rfl rfl ?_
  refine xr_iload dX9_countMeant_10 rfl ?_
  refine xr_bipush dX9_countMeant_12 (by decide) ?_
  obtain ⟨q1, hT2, hF3⟩ := h
  refine xr_icmp_le (tgt := 19) dX9_countMeant_14 (by decide) q1 (by decide) (fun c => ?_) (fun c => ?_)
  · have h := hT2 c
    refine xr_iconst dX9_countMeant_19 ?_
    refine xr_istore' (ll' := [some (xr G 33), some (xi v1), some (xi v2), some (xi v3), some (xi ((v2 + (μ 33 10)) + v3)), some (xi 0), none, none]) dX9_countMeant_20 (by decide) rfl rfl ?_
    refine xr_aload_n dX9_countMeant_22 rfl ?_
    refine xr_getR dX9_countMeant_23 fl_X9_30 L_33 rfl ?_
    refine xr_getR dX9_countMeant_26 fl_X9_99 L_3 rfl ?_
    refine xr_aload_n dX9_countMeant_29 rfl ?_
    refine xr_getR dX9_countMeant_30 fl_X9_30 L_33 rfl ?_
    refine xr_aload_n dX9_countMeant_33 rfl ?_
    refine xr_getR dX9_countMeant_34 fl_X9_9 L_33 rfl ?_
    refine xr_iload_n dX9_countMeant_37 rfl ?_
    obtain ⟨q4, h⟩ := h
    refine xr_iaload' (v := μ 34 v1) dX9_countMeant_38 L_34 rfl (by decide) q4 rfl ?_
    refine xr_iload dX9_countMeant_39 rfl ?_
    refine xr_cvI (As := [xi (μ 34 v1), xi ((v2 + (μ 33 10)) + v3)]) dX9_countMeant_41 mi_X3_chainOf ml_X9_102 se_X3_chainOf L_3 rfl rfl rfl (Nat.le_of_ble_eq_true rfl) h (fun r5 m6 hr5 h => ?_)
    obtain ⟨q7, h⟩ := h
    refine xr_iaload' (v := m6 15 r5) dX9_countMeant_44 L_15 rfl (by decide) q7 rfl ?_
    refine xr_istore' (ll' := [some (xr G 33), some (xi v1), some (xi v2), some (xi v3), some (xi ((v2 + (μ 33 10)) + v3)), some (xi 0), some (xi (m6 15 r5)), none]) dX9_countMeant_45 (by decide) rfl rfl ?_
    refine xr_iconst dX9_countMeant_47 ?_
    refine xr_istore' (ll' := [some (xr G 33), some (xi v1), some (xi v2), some (xi v3), some (xi ((v2 + (μ 33 10)) + v3)), some (xi 0), some (xi (m6 15 r5)), some (xi 0)]) dX9_countMeant_48 (by decide) rfl rfl ?_
    refine xr_wk (ll' := [some (xr G 33), none, some (xi v2), none, none, some (xi 0), some (xi (m6 15 r5)), some (xi 0)]) ⟨rfl, ⟨rfl, ⟨rfl, ⟨rfl, ⟨rfl, trivial⟩⟩⟩⟩⟩ ?_
    exact h
  · have h := hF3 (Int.not_le.mp c)
    refine xr_iconst dX9_countMeant_17 ?_
    exact xr_iret dX9_countMeant_18 rfl ⟨rfl, _, rfl, (by decide), h⟩
set_option maxRecDepth 20000 in
theorem B_X9_countMeant_50 {G : xG} {l : Launch} {d : Nat} {P : Int → xMem → Prop} {v2 v5 v6 v7 : Int} {μ : xMem} (h : (iR v7 ∧ (240 ≤ v7 → (iR v5 ∧ P v5 μ)) ∧ (v7 < 240 → (iR v6 ∧ (v6 = (-1) → (iR v5 ∧ P v5 μ)) ∧ (v6 ≠ (-1) → (iR (μ 33 6) ∧ ((μ 33 6) ≤ v6 → K_X9_countMeant_106 G l (d + 1) P v2 v5 v6 v7 μ) ∧ (v6 < (μ 33 6) → ((0 ≤ v6 ∧ v6 < 240) ∧ CI G l d mX3_isSpelled [xr G 3, xi (μ 17 v6), xi v2, xr G 39, xi 0, xi (μ 33 10)] μ (fun r13 m14 => ((r13 = 0 → K_X9_countMeant_106 G l (d + 1) P v2 v5 v6 v7 m14) ∧ (r13 ≠ 0 → K_X9_countMeant_106 G l (d + 1) P v2 (v5 + 1) v6 v7 m14))))))))))) : K_X9_countMeant_50 G l (d + 1) P v2 v5 v6 v7 μ := by
  unfold K_X9_countMeant_50
  refine xr_iload dX9_countMeant_50 rfl ?_
  refine xr_sipush dX9_countMeant_52 (by decide) ?_
  obtain ⟨q1, hT2, hF3⟩ := h
  refine xr_icmp_ge (tgt := 124) dX9_countMeant_55 (by decide) q1 (by decide) (fun c => ?_) (fun c => ?_)
  · have h := hT2 c
    refine xr_iload dX9_countMeant_124 rfl ?_
    obtain ⟨q4, h⟩ := h
    exact xr_iret dX9_countMeant_126 rfl ⟨rfl, _, rfl, q4, h⟩
  · have h := hF3 (Int.not_le.mp c)
    refine xr_iload dX9_countMeant_58 rfl ?_
    refine xr_iconst dX9_countMeant_60 ?_
    obtain ⟨q5, hT6, hF7⟩ := h
    refine xr_icmp_eq (tgt := 124) dX9_countMeant_61 (by decide) q5 (by decide) (fun c => ?_) (fun c => ?_)
    · have h := hT6 c
      refine xr_iload dX9_countMeant_124 rfl ?_
      obtain ⟨q8, h⟩ := h
      exact xr_iret dX9_countMeant_126 rfl ⟨rfl, _, rfl, q8, h⟩
    · have h := hF7 c
      refine xr_iload dX9_countMeant_64 rfl ?_
      refine xr_aload_n dX9_countMeant_66 rfl ?_
      refine xr_getI' (v := μ 33 6) dX9_countMeant_67 fl_X9_49 L_33 rfl rfl rfl ?_
      obtain ⟨q9, hT10, hF11⟩ := h
      refine xr_icmp_ge (tgt := 106) dX9_countMeant_70 (by decide) q5 q9 (fun c => ?_) (fun c => ?_)
      · have h := hT10 c
        exact h
      · have h := hF11 (Int.not_le.mp c)
        refine xr_aload_n dX9_countMeant_73 rfl ?_
        refine xr_getR dX9_countMeant_74 fl_X9_30 L_33 rfl ?_
        refine xr_aload_n dX9_countMeant_77 rfl ?_
        refine xr_getR dX9_countMeant_78 fl_X9_30 L_33 rfl ?_
        refine xr_getR dX9_countMeant_81 fl_X9_105 L_3 rfl ?_
        refine xr_iload dX9_countMeant_84 rfl ?_
        obtain ⟨q12, h⟩ := h
        refine xr_iaload' (v := μ 17 v6) dX9_countMeant_86 L_17 rfl (by decide) q12 rfl ?_
        refine xr_iload_n dX9_countMeant_87 rfl ?_
        refine xr_aload_n dX9_countMeant_88 rfl ?_
        refine xr_getR dX9_countMeant_89 fl_X9_27 L_33 rfl ?_
        refine xr_iconst dX9_countMeant_92 ?_
        refine xr_aload_n dX9_countMeant_93 rfl ?_
        refine xr_getI' (v := μ 33 10) dX9_countMeant_94 fl_X9_92 L_33 rfl rfl rfl ?_
        refine xr_cvI (As := [xi (μ 17 v6), xi v2, xr G 39, xi 0, xi (μ 33 10)]) dX9_countMeant_97 mi_X3_isSpelled ml_X9_95 se_X3_isSpelled L_3 rfl rfl rfl (Nat.le_of_ble_eq_true rfl) h (fun r13 m14 hr13 h => ?_)
        obtain ⟨hT15, hF16⟩ := h
        refine xr_if_eq (tgt := 106) dX9_countMeant_100 (by decide) hr13  (fun c => ?_) (fun c => ?_)
        · have h := hT15 c
          exact h
        · have h := hF16 c
          refine xr_iinc' (ll' := [some (xr G 33), none, some (xi v2), none, none, some (xi (v5 + 1)), some (xi v6), some (xi v7)]) dX9_countMeant_103 rfl (by decide) rfl rfl ?_
          exact h
set_option maxRecDepth 20000 in
theorem B_X9_countMeant_106 {G : xG} {l : Launch} {d : Nat} {P : Int → xMem → Prop} {v2 v5 v6 v7 : Int} {μ : xMem} (h : ((0 ≤ v6 ∧ v6 < 240) ∧ K_X9_countMeant_50 G l (d + 1) P v2 v5 (μ 16 v6) (v7 + 1) μ)) : K_X9_countMeant_106 G l (d + 1) P v2 v5 v6 v7 μ := by
  unfold K_X9_countMeant_106
  refine xr_aload_n dX9_countMeant_106 rfl ?_
  refine xr_getR dX9_countMeant_107 fl_X9_30 L_33 rfl ?_
  refine xr_getR dX9_countMeant_110 fl_X9_108 L_3 rfl ?_
  refine xr_iload dX9_countMeant_113 rfl ?_
  obtain ⟨q1, h⟩ := h
  refine xr_iaload' (v := μ 16 v6) dX9_countMeant_115 L_16 rfl (by decide) q1 rfl ?_
  refine xr_istore' (ll' := [some (xr G 33), none, some (xi v2), none, none, some (xi v5), some (xi (μ 16 v6)), some (xi v7)]) dX9_countMeant_116 (by decide) rfl rfl ?_
  refine xr_iinc' (ll' := [some (xr G 33), none, some (xi v2), none, none, some (xi v5), some (xi (μ 16 v6)), some (xi (v7 + 1))]) dX9_countMeant_118 rfl (by decide) rfl rfl ?_
  refine xr_goto (tgt := 50) dX9_countMeant_121 (by decide) ?_
  exact h
theorem dX9_isShuffled_0 : decode cX9_isShuffled 0 = .ok (.aload_n 0, 1) := by decide +kernel
theorem dX9_isShuffled_1 : decode cX9_isShuffled 1 = .ok (.getfield 21, 3) := by decide +kernel
theorem dX9_isShuffled_4 : decode cX9_isShuffled 4 = .ok (.iload_n 1, 1) := by decide +kernel
theorem dX9_isShuffled_5 : decode cX9_isShuffled 5 = .ok (.iaload, 1) := by decide +kernel
theorem dX9_isShuffled_6 : decode cX9_isShuffled 6 = .ok (.istore_n 3, 1) := by decide +kernel
theorem dX9_isShuffled_7 : decode cX9_isShuffled 7 = .ok (.aload_n 0, 1) := by decide +kernel
theorem dX9_isShuffled_8 : decode cX9_isShuffled 8 = .ok (.getfield 21, 3) := by decide +kernel
theorem dX9_isShuffled_11 : decode cX9_isShuffled 11 = .ok (.iload_n 2, 1) := by decide +kernel
theorem dX9_isShuffled_12 : decode cX9_isShuffled 12 = .ok (.iconst 1, 1) := by decide +kernel
theorem dX9_isShuffled_13 : decode cX9_isShuffled 13 = .ok (.iadd, 1) := by decide +kernel
theorem dX9_isShuffled_14 : decode cX9_isShuffled 14 = .ok (.iaload, 1) := by decide +kernel
theorem dX9_isShuffled_15 : decode cX9_isShuffled 15 = .ok (.iload_n 3, 1) := by decide +kernel
theorem dX9_isShuffled_16 : decode cX9_isShuffled 16 = .ok (.isub, 1) := by decide +kernel
theorem dX9_isShuffled_17 : decode cX9_isShuffled 17 = .ok (.aload_n 0, 1) := by decide +kernel
theorem dX9_isShuffled_18 : decode cX9_isShuffled 18 = .ok (.getfield 92, 3) := by decide +kernel
theorem dX9_isShuffled_21 : decode cX9_isShuffled 21 = .ok (.if_icmp .eq 5, 3) := by decide +kernel
theorem dX9_isShuffled_24 : decode cX9_isShuffled 24 = .ok (.iconst 0, 1) := by decide +kernel
theorem dX9_isShuffled_25 : decode cX9_isShuffled 25 = .ok (.ireturn, 1) := by decide +kernel
theorem dX9_isShuffled_26 : decode cX9_isShuffled 26 = .ok (.iconst 0, 1) := by decide +kernel
theorem dX9_isShuffled_27 : decode cX9_isShuffled 27 = .ok (.istore 4, 2) := by decide +kernel
theorem dX9_isShuffled_29 : decode cX9_isShuffled 29 = .ok (.lconst 0, 1) := by decide +kernel
theorem dX9_isShuffled_30 : decode cX9_isShuffled 30 = .ok (.lstore 5, 2) := by decide +kernel
theorem dX9_isShuffled_32 : decode cX9_isShuffled 32 = .ok (.lconst 0, 1) := by decide +kernel
theorem dX9_isShuffled_33 : decode cX9_isShuffled 33 = .ok (.lstore 7, 2) := by decide +kernel
theorem dX9_isShuffled_35 : decode cX9_isShuffled 35 = .ok (.iconst 0, 1) := by decide +kernel
theorem dX9_isShuffled_36 : decode cX9_isShuffled 36 = .ok (.istore 9, 2) := by decide +kernel
theorem dX9_isShuffled_38 : decode cX9_isShuffled 38 = .ok (.iload 9, 2) := by decide +kernel
theorem dX9_isShuffled_40 : decode cX9_isShuffled 40 = .ok (.aload_n 0, 1) := by decide +kernel
theorem dX9_isShuffled_41 : decode cX9_isShuffled 41 = .ok (.getfield 92, 3) := by decide +kernel
theorem dX9_isShuffled_44 : decode cX9_isShuffled 44 = .ok (.if_icmp .ge 98, 3) := by decide +kernel
theorem dX9_isShuffled_47 : decode cX9_isShuffled 47 = .ok (.iload 4, 2) := by decide +kernel
theorem dX9_isShuffled_49 : decode cX9_isShuffled 49 = .ok (.aload_n 0, 1) := by decide +kernel
theorem dX9_isShuffled_50 : decode cX9_isShuffled 50 = .ok (.getfield 18, 3) := by decide +kernel
theorem dX9_isShuffled_53 : decode cX9_isShuffled 53 = .ok (.iload_n 3, 1) := by decide +kernel
theorem dX9_isShuffled_54 : decode cX9_isShuffled 54 = .ok (.iload 9, 2) := by decide +kernel
theorem dX9_isShuffled_56 : decode cX9_isShuffled 56 = .ok (.iadd, 1) := by decide +kernel
theorem dX9_isShuffled_57 : decode cX9_isShuffled 57 = .ok (.iaload, 1) := by decide +kernel
theorem dX9_isShuffled_58 : decode cX9_isShuffled 58 = .ok (.aload_n 0, 1) := by decide +kernel
theorem dX9_isShuffled_59 : decode cX9_isShuffled 59 = .ok (.getfield 27, 3) := by decide +kernel
theorem dX9_isShuffled_62 : decode cX9_isShuffled 62 = .ok (.iload 9, 2) := by decide +kernel
theorem dX9_isShuffled_64 : decode cX9_isShuffled 64 = .ok (.iaload, 1) := by decide +kernel
theorem dX9_isShuffled_65 : decode cX9_isShuffled 65 = .ok (.if_icmp .eq 7, 3) := by decide +kernel
theorem dX9_isShuffled_68 : decode cX9_isShuffled 68 = .ok (.iconst 1, 1) := by decide +kernel
theorem dX9_isShuffled_69 : decode cX9_isShuffled 69 = .ok (.goto 4, 3) := by decide +kernel
theorem dX9_isShuffled_72 : decode cX9_isShuffled 72 = .ok (.iconst 0, 1) := by decide +kernel
theorem dX9_isShuffled_73 : decode cX9_isShuffled 73 = .ok (.ior, 1) := by decide +kernel
theorem dX9_isShuffled_74 : decode cX9_isShuffled 74 = .ok (.istore 4, 2) := by decide +kernel
theorem dX9_isShuffled_76 : decode cX9_isShuffled 76 = .ok (.lload 5, 2) := by decide +kernel
theorem dX9_isShuffled_78 : decode cX9_isShuffled 78 = .ok (.aload_n 0, 1) := by decide +kernel
theorem dX9_isShuffled_79 : decode cX9_isShuffled 79 = .ok (.aload_n 0, 1) := by decide +kernel
theorem dX9_isShuffled_80 : decode cX9_isShuffled 80 = .ok (.getfield 18, 3) := by decide +kernel
theorem dX9_isShuffled_83 : decode cX9_isShuffled 83 = .ok (.iload_n 3, 1) := by decide +kernel
theorem dX9_isShuffled_84 : decode cX9_isShuffled 84 = .ok (.iload 9, 2) := by decide +kernel
theorem dX9_isShuffled_86 : decode cX9_isShuffled 86 = .ok (.iadd, 1) := by decide +kernel
theorem dX9_isShuffled_87 : decode cX9_isShuffled 87 = .ok (.iaload, 1) := by decide +kernel
theorem dX9_isShuffled_88 : decode cX9_isShuffled 88 = .ok (.invokevirtual 111, 3) := by decide +kernel
theorem dX9_isShuffled_91 : decode cX9_isShuffled 91 = .ok (.aload_n 0, 1) := by decide +kernel
theorem dX9_isShuffled_92 : decode cX9_isShuffled 92 = .ok (.aload_n 0, 1) := by decide +kernel
theorem dX9_isShuffled_93 : decode cX9_isShuffled 93 = .ok (.getfield 27, 3) := by decide +kernel
theorem dX9_isShuffled_96 : decode cX9_isShuffled 96 = .ok (.iload 9, 2) := by decide +kernel
theorem dX9_isShuffled_98 : decode cX9_isShuffled 98 = .ok (.iaload, 1) := by decide +kernel
theorem dX9_isShuffled_99 : decode cX9_isShuffled 99 = .ok (.invokevirtual 111, 3) := by decide +kernel
theorem dX9_isShuffled_102 : decode cX9_isShuffled 102 = .ok (.lsub, 1) := by decide +kernel
theorem dX9_isShuffled_103 : decode cX9_isShuffled 103 = .ok (.ladd, 1) := by decide +kernel
theorem dX9_isShuffled_104 : decode cX9_isShuffled 104 = .ok (.lstore 5, 2) := by decide +kernel
theorem dX9_isShuffled_106 : decode cX9_isShuffled 106 = .ok (.lload 7, 2) := by decide +kernel
theorem dX9_isShuffled_108 : decode cX9_isShuffled 108 = .ok (.aload_n 0, 1) := by decide +kernel
theorem dX9_isShuffled_109 : decode cX9_isShuffled 109 = .ok (.aload_n 0, 1) := by decide +kernel
theorem dX9_isShuffled_110 : decode cX9_isShuffled 110 = .ok (.getfield 18, 3) := by decide +kernel
theorem dX9_isShuffled_113 : decode cX9_isShuffled 113 = .ok (.iload_n 3, 1) := by decide +kernel
theorem dX9_isShuffled_114 : decode cX9_isShuffled 114 = .ok (.iload 9, 2) := by decide +kernel
theorem dX9_isShuffled_116 : decode cX9_isShuffled 116 = .ok (.iadd, 1) := by decide +kernel
theorem dX9_isShuffled_117 : decode cX9_isShuffled 117 = .ok (.iaload, 1) := by decide +kernel
theorem dX9_isShuffled_118 : decode cX9_isShuffled 118 = .ok (.invokevirtual 115, 3) := by decide +kernel
theorem dX9_isShuffled_121 : decode cX9_isShuffled 121 = .ok (.aload_n 0, 1) := by decide +kernel
theorem dX9_isShuffled_122 : decode cX9_isShuffled 122 = .ok (.aload_n 0, 1) := by decide +kernel
theorem dX9_isShuffled_123 : decode cX9_isShuffled 123 = .ok (.getfield 27, 3) := by decide +kernel
theorem dX9_isShuffled_126 : decode cX9_isShuffled 126 = .ok (.iload 9, 2) := by decide +kernel
theorem dX9_isShuffled_128 : decode cX9_isShuffled 128 = .ok (.iaload, 1) := by decide +kernel
theorem dX9_isShuffled_129 : decode cX9_isShuffled 129 = .ok (.invokevirtual 115, 3) := by decide +kernel
theorem dX9_isShuffled_132 : decode cX9_isShuffled 132 = .ok (.lsub, 1) := by decide +kernel
theorem dX9_isShuffled_133 : decode cX9_isShuffled 133 = .ok (.ladd, 1) := by decide +kernel
theorem dX9_isShuffled_134 : decode cX9_isShuffled 134 = .ok (.lstore 7, 2) := by decide +kernel
theorem dX9_isShuffled_136 : decode cX9_isShuffled 136 = .ok (.iinc 9 1, 3) := by decide +kernel
theorem dX9_isShuffled_139 : decode cX9_isShuffled 139 = .ok (.goto (-101), 3) := by decide +kernel
theorem dX9_isShuffled_142 : decode cX9_isShuffled 142 = .ok (.iload 4, 2) := by decide +kernel
theorem dX9_isShuffled_144 : decode cX9_isShuffled 144 = .ok (.ifCond .eq 21, 3) := by decide +kernel
theorem dX9_isShuffled_147 : decode cX9_isShuffled 147 = .ok (.lload 5, 2) := by decide +kernel
theorem dX9_isShuffled_149 : decode cX9_isShuffled 149 = .ok (.lconst 0, 1) := by decide +kernel
theorem dX9_isShuffled_150 : decode cX9_isShuffled 150 = .ok (.lcmp, 1) := by decide +kernel
theorem dX9_isShuffled_151 : decode cX9_isShuffled 151 = .ok (.ifCond .ne 14, 3) := by decide +kernel
theorem dX9_isShuffled_154 : decode cX9_isShuffled 154 = .ok (.lload 7, 2) := by decide +kernel
theorem dX9_isShuffled_156 : decode cX9_isShuffled 156 = .ok (.lconst 0, 1) := by decide +kernel
theorem dX9_isShuffled_157 : decode cX9_isShuffled 157 = .ok (.lcmp, 1) := by decide +kernel
theorem dX9_isShuffled_158 : decode cX9_isShuffled 158 = .ok (.ifCond .ne 7, 3) := by decide +kernel
theorem dX9_isShuffled_161 : decode cX9_isShuffled 161 = .ok (.iconst 1, 1) := by decide +kernel
theorem dX9_isShuffled_162 : decode cX9_isShuffled 162 = .ok (.goto 4, 3) := by decide +kernel
theorem dX9_isShuffled_165 : decode cX9_isShuffled 165 = .ok (.iconst 0, 1) := by decide +kernel
theorem dX9_isShuffled_166 : decode cX9_isShuffled 166 = .ok (.ireturn, 1) := by decide +kernel
def K_X9_isShuffled_38 (G : xG) (l : Launch) (d : Nat) (P : Int → xMem → Prop) (v3 v4 v5 v7 v9 : Int) (μ : xMem) : Prop := RR G l d 0 0 false mX9_isShuffled (qI P) 38 [some (xr G 33), none, none, some (xi v3), some (xi v4), some (xl v5), none, some (xl v7), none, some (xi v9)] [] LAY μ 0 0
def K_X9_isShuffled_73 (G : xG) (l : Launch) (d : Nat) (P : Int → xMem → Prop) (v3 v5 v7 v9 s0 s1 : Int) (μ : xMem) : Prop := RR G l d 0 0 false mX9_isShuffled (qI P) 73 [some (xr G 33), none, none, some (xi v3), none, some (xl v5), none, some (xl v7), none, some (xi v9)] [xi s1, xi s0] LAY μ 0 0
set_option maxRecDepth 20000 in
theorem E_X9_isShuffled {G : xG} {l : Launch} {d : Nat} {P : Int → xMem → Prop} {v1 v2 : Int} {μ : xMem} (h : ((0 ≤ v1 ∧ v1 < 9) ∧ ((0 ≤ v2 + 1 ∧ v2 + 1 < 9) ∧ (iR ((μ 37 (v2 + 1)) - (μ 37 v1)) ∧ iR (μ 33 10) ∧ (((μ 37 (v2 + 1)) - (μ 37 v1)) = (μ 33 10) → K_X9_isShuffled_38 G l (d + 1) P (μ 37 v1) 0 0 0 0 μ) ∧ (((μ 37 (v2 + 1)) - (μ 37 v1)) ≠ (μ 33 10) → P 0 μ))))) : CI G l (d + 1) mX9_isShuffled [xr G 33, xi v1, xi v2] μ P := by
  refine CC.ofRR (ll := [some (xr G 33), some (xi v1), some (xi v2), none, none, none, none, none, none, none]) (by decide +kernel) (Nat.le_of_ble_eq_true rfl) rfl (fun h => by cases h) ?_
  refine xr_aload_n dX9_isShuffled_0 rfl ?_
  refine xr_getR dX9_isShuffled_1 fl_X9_21 L_33 rfl ?_
  refine xr_iload_n dX9_isShuffled_4 rfl ?_
  obtain ⟨q1, h⟩ := h
  refine xr_iaload' (v := μ 37 v1) dX9_isShuffled_5 L_37 rfl (by decide) q1 rfl ?_
  refine xr_istore_n' (ll' := [some (xr G 33), some (xi v1), some (xi v2), some (xi (μ 37 v1)), none, none, none, none, none, none]) dX9_isShuffled_6 (by decide) rfl rfl ?_
  refine xr_aload_n dX9_isShuffled_7 rfl ?_
  refine xr_getR dX9_isShuffled_8 fl_X9_21 L_33 rfl ?_
  refine xr_iload_n dX9_isShuffled_11 rfl ?_
  refine xr_iconst dX9_isShuffled_12 ?_
  refine xr_iadd dX9_isShuffled_13 ?_
  obtain ⟨q2, h⟩ := h
  refine xr_iaload' (v := μ 37 (v2 + 1)) dX9_isShuffled_14 L_37 rfl (by decide) q2 rfl ?_
  refine xr_iload_n dX9_isShuffled_15 rfl ?_
  refine xr_isub dX9_isShuffled_16 ?_
  refine xr_aload_n dX9_isShuffled_17 rfl ?_
  refine xr_getI' (v := μ 33 10) dX9_isShuffled_18 fl_X9_92 L_33 rfl rfl rfl ?_
  obtain ⟨q3, q4, hT5, hF6⟩ := h
  refine xr_icmp_eq (tgt := 26) dX9_isShuffled_21 (by decide) q3 q4 (fun c => ?_) (fun c => ?_)
  · have h := hT5 c
    refine xr_iconst dX9_isShuffled_26 ?_
    refine xr_istore' (ll' := [some (xr G 33), some (xi v1), some (xi v2), some (xi (μ 37 v1)), some (xi 0), none, none, none, none, none]) dX9_isShuffled_27 (by decide) rfl rfl ?_
    refine xr_lconst dX9_isShuffled_29 ?_
    refine xr_lstore' (ll' := [some (xr G 33), some (xi v1), some (xi v2), some (xi (μ 37 v1)), some (xi 0), some (xl 0), none, none, none, none]) dX9_isShuffled_30 (by decide) rfl rfl ?_
    refine xr_lconst dX9_isShuffled_32 ?_
    refine xr_lstore' (ll' := [some (xr G 33), some (xi v1), some (xi v2), some (xi (μ 37 v1)), some (xi 0), some (xl 0), none, some (xl 0), none, none]) dX9_isShuffled_33 (by decide) rfl rfl ?_
    refine xr_iconst dX9_isShuffled_35 ?_
    refine xr_istore' (ll' := [some (xr G 33), some (xi v1), some (xi v2), some (xi (μ 37 v1)), some (xi 0), some (xl 0), none, some (xl 0), none, some (xi 0)]) dX9_isShuffled_36 (by decide) rfl rfl ?_
    refine xr_wk (ll' := [some (xr G 33), none, none, some (xi (μ 37 v1)), some (xi 0), some (xl 0), none, some (xl 0), none, some (xi 0)]) ⟨rfl, ⟨rfl, ⟨rfl, ⟨rfl, ⟨rfl, ⟨rfl, trivial⟩⟩⟩⟩⟩⟩ ?_
    exact h
  · have h := hF6 c
    refine xr_iconst dX9_isShuffled_24 ?_
    exact xr_zret dX9_isShuffled_25 rfl (x_nz (by decide)).1 ⟨rfl, _, rfl, x_01 (by decide), h⟩
set_option maxRecDepth 20000 in
theorem B_X9_isShuffled_38 {G : xG} {l : Launch} {d : Nat} {P : Int → xMem → Prop} {v3 v4 v5 v7 v9 : Int} {μ : xMem} (h : (iR v9 ∧ iR (μ 33 10) ∧ ((μ 33 10) ≤ v9 → (iR v4 ∧ (v4 = 0 → P 0 μ) ∧ (v4 ≠ 0 → (lR v5 ∧ (((jcmp v5 0) ≠ 0 → P 0 μ) ∧ ((jcmp v5 0) = 0 → (lR v7 ∧ (((jcmp v7 0) ≠ 0 → P 0 μ) ∧ ((jcmp v7 0) = 0 → P 1 μ))))))))) ∧ (v9 < (μ 33 10) → ((0 ≤ v3 + v9 ∧ v3 + v9 < 80) ∧ ((0 ≤ v9 ∧ v9 < 10) ∧ (iR (μ 36 (v3 + v9)) ∧ iR (μ 39 v9) ∧ ((μ 36 (v3 + v9)) = (μ 39 v9) → K_X9_isShuffled_73 G l (d + 1) P v3 v5 v7 v9 v4 0 μ) ∧ ((μ 36 (v3 + v9)) ≠ (μ 39 v9) → K_X9_isShuffled_73 G l (d + 1) P v3 v5 v7 v9 v4 1 μ))))))) : K_X9_isShuffled_38 G l (d + 1) P v3 v4 v5 v7 v9 μ := by
  unfold K_X9_isShuffled_38
  refine xr_iload dX9_isShuffled_38 rfl ?_
  refine xr_aload_n dX9_isShuffled_40 rfl ?_
  refine xr_getI' (v := μ 33 10) dX9_isShuffled_41 fl_X9_92 L_33 rfl rfl rfl ?_
  obtain ⟨q1, q2, hT3, hF4⟩ := h
  refine xr_icmp_ge (tgt := 142) dX9_isShuffled_44 (by decide) q1 q2 (fun c => ?_) (fun c => ?_)
  · have h := hT3 c
    refine xr_iload dX9_isShuffled_142 rfl ?_
    obtain ⟨q5, hT6, hF7⟩ := h
    refine xr_if_eq (tgt := 165) dX9_isShuffled_144 (by decide) q5  (fun c => ?_) (fun c => ?_)
    · have h := hT6 c
      refine xr_iconst dX9_isShuffled_165 ?_
      exact xr_zret dX9_isShuffled_166 rfl (x_nz (by decide)).1 ⟨rfl, _, rfl, x_01 (by decide), h⟩
    · have h := hF7 c
      refine xr_lload dX9_isShuffled_147 rfl ?_
      refine xr_lconst dX9_isShuffled_149 ?_
      obtain ⟨q8, h⟩ := h
      refine xr_lcmp dX9_isShuffled_150 q8 (by decide) ?_
      obtain ⟨hT9, hF10⟩ := h
      refine xr_if_ne (tgt := 165) dX9_isShuffled_151 (by decide) (jR_cmp _ _)  (fun c => ?_) (fun c => ?_)
      · have h := hT9 c
        refine xr_iconst dX9_isShuffled_165 ?_
        exact xr_zret dX9_isShuffled_166 rfl (x_nz (by decide)).1 ⟨rfl, _, rfl, x_01 (by decide), h⟩
      · have h := hF10 c
        refine xr_lload dX9_isShuffled_154 rfl ?_
        refine xr_lconst dX9_isShuffled_156 ?_
        obtain ⟨q11, h⟩ := h
        refine xr_lcmp dX9_isShuffled_157 q11 (by decide) ?_
        obtain ⟨hT12, hF13⟩ := h
        refine xr_if_ne (tgt := 165) dX9_isShuffled_158 (by decide) (jR_cmp _ _)  (fun c => ?_) (fun c => ?_)
        · have h := hT12 c
          refine xr_iconst dX9_isShuffled_165 ?_
          exact xr_zret dX9_isShuffled_166 rfl (x_nz (by decide)).1 ⟨rfl, _, rfl, x_01 (by decide), h⟩
        · have h := hF13 c
          refine xr_iconst dX9_isShuffled_161 ?_
          refine xr_goto (tgt := 166) dX9_isShuffled_162 (by decide) ?_
          exact xr_zret dX9_isShuffled_166 rfl (x_nz (by decide)).1 ⟨rfl, _, rfl, x_01 (by decide), h⟩
  · have h := hF4 (Int.not_le.mp c)
    refine xr_iload dX9_isShuffled_47 rfl ?_
    refine xr_aload_n dX9_isShuffled_49 rfl ?_
    refine xr_getR dX9_isShuffled_50 fl_X9_18 L_33 rfl ?_
    refine xr_iload_n dX9_isShuffled_53 rfl ?_
    refine xr_iload dX9_isShuffled_54 rfl ?_
    refine xr_iadd dX9_isShuffled_56 ?_
    obtain ⟨q14, h⟩ := h
    refine xr_iaload' (v := μ 36 (v3 + v9)) dX9_isShuffled_57 L_36 rfl (by decide) q14 rfl ?_
    refine xr_aload_n dX9_isShuffled_58 rfl ?_
    refine xr_getR dX9_isShuffled_59 fl_X9_27 L_33 rfl ?_
    refine xr_iload dX9_isShuffled_62 rfl ?_
    obtain ⟨q15, h⟩ := h
    refine xr_iaload' (v := μ 39 v9) dX9_isShuffled_64 L_39 rfl (by decide) q15 rfl ?_
    obtain ⟨q16, q17, hT18, hF19⟩ := h
    refine xr_icmp_eq (tgt := 72) dX9_isShuffled_65 (by decide) q16 q17 (fun c => ?_) (fun c => ?_)
    · have h := hT18 c
      refine xr_iconst dX9_isShuffled_72 ?_
      refine xr_wk (ll' := [some (xr G 33), none, none, some (xi v3), none, some (xl v5), none, some (xl v7), none, some (xi v9)]) ⟨rfl, ⟨rfl, ⟨rfl, ⟨rfl, ⟨rfl, trivial⟩⟩⟩⟩⟩ ?_
      exact h
    · have h := hF19 c
      refine xr_iconst dX9_isShuffled_68 ?_
      refine xr_goto (tgt := 73) dX9_isShuffled_69 (by decide) ?_
      refine xr_wk (ll' := [some (xr G 33), none, none, some (xi v3), none, some (xl v5), none, some (xl v7), none, some (xi v9)]) ⟨rfl, ⟨rfl, ⟨rfl, ⟨rfl, ⟨rfl, trivial⟩⟩⟩⟩⟩ ?_
      exact h
set_option maxRecDepth 20000 in
theorem B_X9_isShuffled_73 {G : xG} {l : Launch} {d : Nat} {P : Int → xMem → Prop} {v3 v5 v7 v9 s0 s1 : Int} {μ : xMem} (h : ((0 ≤ v3 + v9 ∧ v3 + v9 < 80) ∧ CL G l d mX9_lowTally [xr G 33, xi (μ 36 (v3 + v9))] μ (fun r2 m3 => ((0 ≤ v9 ∧ v9 < 10) ∧ CL G l d mX9_lowTally [xr G 33, xi (m3 39 v9)] m3 (fun r5 m6 => CL G l d mX9_highTally [xr G 33, xi (m6 36 (v3 + v9))] m6 (fun r7 m8 => CL G l d mX9_highTally [xr G 33, xi (m8 39 v9)] m8 (fun r9 m10 => K_X9_isShuffled_38 G l (d + 1) P v3 (jor s0 s1) (v5 + (r2 - r5)) (v7 + (r7 - r9)) (v9 + 1) m10))))))) : K_X9_isShuffled_73 G l (d + 1) P v3 v5 v7 v9 s0 s1 μ := by
  unfold K_X9_isShuffled_73
  refine xr_ior dX9_isShuffled_73 ?_
  refine xr_istore' (ll' := [some (xr G 33), none, none, some (xi v3), some (xi (jor s0 s1)), some (xl v5), none, some (xl v7), none, some (xi v9)]) dX9_isShuffled_74 (by decide) rfl rfl ?_
  refine xr_lload dX9_isShuffled_76 rfl ?_
  refine xr_aload_n dX9_isShuffled_78 rfl ?_
  refine xr_aload_n dX9_isShuffled_79 rfl ?_
  refine xr_getR dX9_isShuffled_80 fl_X9_18 L_33 rfl ?_
  refine xr_iload_n dX9_isShuffled_83 rfl ?_
  refine xr_iload dX9_isShuffled_84 rfl ?_
  refine xr_iadd dX9_isShuffled_86 ?_
  obtain ⟨q1, h⟩ := h
  refine xr_iaload' (v := μ 36 (v3 + v9)) dX9_isShuffled_87 L_36 rfl (by decide) q1 rfl ?_
  refine xr_cvL (As := [xi (μ 36 (v3 + v9))]) dX9_isShuffled_88 mi_X9_lowTally ml_X9_111 se_X9_lowTally L_33 rfl rfl rfl (Nat.le_of_ble_eq_true rfl) h (fun r2 m3 hr2 h => ?_)
  refine xr_aload_n dX9_isShuffled_91 rfl ?_
  refine xr_aload_n dX9_isShuffled_92 rfl ?_
  refine xr_getR dX9_isShuffled_93 fl_X9_27 L_33 rfl ?_
  refine xr_iload dX9_isShuffled_96 rfl ?_
  obtain ⟨q4, h⟩ := h
  refine xr_iaload' (v := m3 39 v9) dX9_isShuffled_98 L_39 rfl (by decide) q4 rfl ?_
  refine xr_cvL (As := [xi (m3 39 v9)]) dX9_isShuffled_99 mi_X9_lowTally ml_X9_111 se_X9_lowTally L_33 rfl rfl rfl (Nat.le_of_ble_eq_true rfl) h (fun r5 m6 hr5 h => ?_)
  refine xr_lsub dX9_isShuffled_102 ?_
  refine xr_ladd dX9_isShuffled_103 ?_
  refine xr_lstore' (ll' := [some (xr G 33), none, none, some (xi v3), some (xi (jor s0 s1)), some (xl (v5 + (r2 - r5))), none, some (xl v7), none, some (xi v9)]) dX9_isShuffled_104 (by decide) rfl rfl ?_
  refine xr_lload dX9_isShuffled_106 rfl ?_
  refine xr_aload_n dX9_isShuffled_108 rfl ?_
  refine xr_aload_n dX9_isShuffled_109 rfl ?_
  refine xr_getR dX9_isShuffled_110 fl_X9_18 L_33 rfl ?_
  refine xr_iload_n dX9_isShuffled_113 rfl ?_
  refine xr_iload dX9_isShuffled_114 rfl ?_
  refine xr_iadd dX9_isShuffled_116 ?_
  refine xr_iaload' (v := m6 36 (v3 + v9)) dX9_isShuffled_117 L_36 rfl (by decide) q1 rfl ?_
  refine xr_cvL (As := [xi (m6 36 (v3 + v9))]) dX9_isShuffled_118 mi_X9_highTally ml_X9_115 se_X9_highTally L_33 rfl rfl rfl (Nat.le_of_ble_eq_true rfl) h (fun r7 m8 hr7 h => ?_)
  refine xr_aload_n dX9_isShuffled_121 rfl ?_
  refine xr_aload_n dX9_isShuffled_122 rfl ?_
  refine xr_getR dX9_isShuffled_123 fl_X9_27 L_33 rfl ?_
  refine xr_iload dX9_isShuffled_126 rfl ?_
  refine xr_iaload' (v := m8 39 v9) dX9_isShuffled_128 L_39 rfl (by decide) q4 rfl ?_
  refine xr_cvL (As := [xi (m8 39 v9)]) dX9_isShuffled_129 mi_X9_highTally ml_X9_115 se_X9_highTally L_33 rfl rfl rfl (Nat.le_of_ble_eq_true rfl) h (fun r9 m10 hr9 h => ?_)
  refine xr_lsub dX9_isShuffled_132 ?_
  refine xr_ladd dX9_isShuffled_133 ?_
  refine xr_lstore' (ll' := [some (xr G 33), none, none, some (xi v3), some (xi (jor s0 s1)), some (xl (v5 + (r2 - r5))), none, some (xl (v7 + (r7 - r9))), none, some (xi v9)]) dX9_isShuffled_134 (by decide) rfl rfl ?_
  refine xr_iinc' (ll' := [some (xr G 33), none, none, some (xi v3), some (xi (jor s0 s1)), some (xl (v5 + (r2 - r5))), none, some (xl (v7 + (r7 - r9))), none, some (xi (v9 + 1))]) dX9_isShuffled_136 rfl (by decide) rfl rfl ?_
  refine xr_goto (tgt := 38) dX9_isShuffled_139 (by decide) ?_
  exact h
theorem dX9_lowTally_0 : decode cX9_lowTally 0 = .ok (.iload_n 1, 1) := by decide +kernel
theorem dX9_lowTally_1 : decode cX9_lowTally 1 = .ok (.bipush 110, 2) := by decide +kernel
theorem dX9_lowTally_3 : decode cX9_lowTally 3 = .ok (.if_icmp .ge 14, 3) := by decide +kernel
theorem dX9_lowTally_6 : decode cX9_lowTally 6 = .ok (.lconst 1, 1) := by decide +kernel
theorem dX9_lowTally_7 : decode cX9_lowTally 7 = .ok (.iconst 4, 1) := by decide +kernel
theorem dX9_lowTally_8 : decode cX9_lowTally 8 = .ok (.iload_n 1, 1) := by decide +kernel
theorem dX9_lowTally_9 : decode cX9_lowTally 9 = .ok (.bipush 97, 2) := by decide +kernel
theorem dX9_lowTally_11 : decode cX9_lowTally 11 = .ok (.isub, 1) := by decide +kernel
theorem dX9_lowTally_12 : decode cX9_lowTally 12 = .ok (.imul, 1) := by decide +kernel
theorem dX9_lowTally_13 : decode cX9_lowTally 13 = .ok (.lshl, 1) := by decide +kernel
theorem dX9_lowTally_14 : decode cX9_lowTally 14 = .ok (.goto 4, 3) := by decide +kernel
theorem dX9_lowTally_17 : decode cX9_lowTally 17 = .ok (.lconst 0, 1) := by decide +kernel
theorem dX9_lowTally_18 : decode cX9_lowTally 18 = .ok (.lreturn, 1) := by decide +kernel
set_option maxRecDepth 20000 in
theorem E_X9_lowTally {G : xG} {l : Launch} {d : Nat} {P : Int → xMem → Prop} {v1 : Int} {μ : xMem} (h : (iR v1 ∧ (110 ≤ v1 → P 0 μ) ∧ (v1 < 110 → P (jlshl 1 (4 * (v1 - 97))) μ))) : CL G l (d + 1) mX9_lowTally [xr G 33, xi v1] μ P := by
  refine CC.ofRR (ll := [some (xr G 33), some (xi v1)]) (by decide +kernel) (Nat.le_of_ble_eq_true rfl) rfl (fun h => by cases h) ?_
  refine xr_iload_n dX9_lowTally_0 rfl ?_
  refine xr_bipush dX9_lowTally_1 (by decide) ?_
  obtain ⟨q1, hT2, hF3⟩ := h
  refine xr_icmp_ge (tgt := 17) dX9_lowTally_3 (by decide) q1 (by decide) (fun c => ?_) (fun c => ?_)
  · have h := hT2 c
    refine xr_lconst dX9_lowTally_17 ?_
    exact xr_lret dX9_lowTally_18 rfl ⟨rfl, _, rfl, (by decide), h⟩
  · have h := hF3 (Int.not_le.mp c)
    refine xr_lconst dX9_lowTally_6 ?_
    refine xr_iconst dX9_lowTally_7 ?_
    refine xr_iload_n dX9_lowTally_8 rfl ?_
    refine xr_bipush dX9_lowTally_9 (by decide) ?_
    refine xr_isub dX9_lowTally_11 ?_
    refine xr_imul dX9_lowTally_12 ?_
    refine xr_lshl dX9_lowTally_13 ?_
    refine xr_goto (tgt := 18) dX9_lowTally_14 (by decide) ?_
    exact xr_lret dX9_lowTally_18 rfl ⟨rfl, _, rfl, (jR_lshl _ _), h⟩
theorem dX9_highTally_0 : decode cX9_highTally 0 = .ok (.iload_n 1, 1) := by decide +kernel
theorem dX9_highTally_1 : decode cX9_highTally 1 = .ok (.bipush 110, 2) := by decide +kernel
theorem dX9_highTally_3 : decode cX9_highTally 3 = .ok (.if_icmp .ge 7, 3) := by decide +kernel
theorem dX9_highTally_6 : decode cX9_highTally 6 = .ok (.lconst 0, 1) := by decide +kernel
theorem dX9_highTally_7 : decode cX9_highTally 7 = .ok (.goto 11, 3) := by decide +kernel
theorem dX9_highTally_10 : decode cX9_highTally 10 = .ok (.lconst 1, 1) := by decide +kernel
theorem dX9_highTally_11 : decode cX9_highTally 11 = .ok (.iconst 4, 1) := by decide +kernel
theorem dX9_highTally_12 : decode cX9_highTally 12 = .ok (.iload_n 1, 1) := by decide +kernel
theorem dX9_highTally_13 : decode cX9_highTally 13 = .ok (.bipush 110, 2) := by decide +kernel
theorem dX9_highTally_15 : decode cX9_highTally 15 = .ok (.isub, 1) := by decide +kernel
theorem dX9_highTally_16 : decode cX9_highTally 16 = .ok (.imul, 1) := by decide +kernel
theorem dX9_highTally_17 : decode cX9_highTally 17 = .ok (.lshl, 1) := by decide +kernel
theorem dX9_highTally_18 : decode cX9_highTally 18 = .ok (.lreturn, 1) := by decide +kernel
set_option maxRecDepth 20000 in
theorem E_X9_highTally {G : xG} {l : Launch} {d : Nat} {P : Int → xMem → Prop} {v1 : Int} {μ : xMem} (h : (iR v1 ∧ (110 ≤ v1 → P (jlshl 1 (4 * (v1 - 110))) μ) ∧ (v1 < 110 → P 0 μ))) : CL G l (d + 1) mX9_highTally [xr G 33, xi v1] μ P := by
  refine CC.ofRR (ll := [some (xr G 33), some (xi v1)]) (by decide +kernel) (Nat.le_of_ble_eq_true rfl) rfl (fun h => by cases h) ?_
  refine xr_iload_n dX9_highTally_0 rfl ?_
  refine xr_bipush dX9_highTally_1 (by decide) ?_
  obtain ⟨q1, hT2, hF3⟩ := h
  refine xr_icmp_ge (tgt := 10) dX9_highTally_3 (by decide) q1 (by decide) (fun c => ?_) (fun c => ?_)
  · have h := hT2 c
    refine xr_lconst dX9_highTally_10 ?_
    refine xr_iconst dX9_highTally_11 ?_
    refine xr_iload_n dX9_highTally_12 rfl ?_
    refine xr_bipush dX9_highTally_13 (by decide) ?_
    refine xr_isub dX9_highTally_15 ?_
    refine xr_imul dX9_highTally_16 ?_
    refine xr_lshl dX9_highTally_17 ?_
    exact xr_lret dX9_highTally_18 rfl ⟨rfl, _, rfl, (jR_lshl _ _), h⟩
  · have h := hF3 (Int.not_le.mp c)
    refine xr_lconst dX9_highTally_6 ?_
    refine xr_goto (tgt := 18) dX9_highTally_7 (by decide) ?_
    exact xr_lret dX9_highTally_18 rfl ⟨rfl, _, rfl, (by decide), h⟩
theorem dX9_isHeads_0 : decode cX9_isHeads 0 = .ok (.iload_n 2, 1) := by decide +kernel
theorem dX9_isHeads_1 : decode cX9_isHeads 1 = .ok (.iload_n 1, 1) := by decide +kernel
theorem dX9_isHeads_2 : decode cX9_isHeads 2 = .ok (.isub, 1) := by decide +kernel
theorem dX9_isHeads_3 : decode cX9_isHeads 3 = .ok (.iconst 1, 1) := by decide +kernel
theorem dX9_isHeads_4 : decode cX9_isHeads 4 = .ok (.iadd, 1) := by decide +kernel
theorem dX9_isHeads_5 : decode cX9_isHeads 5 = .ok (.aload_n 0, 1) := by decide +kernel
theorem dX9_isHeads_6 : decode cX9_isHeads 6 = .ok (.getfield 92, 3) := by decide +kernel
theorem dX9_isHeads_9 : decode cX9_isHeads 9 = .ok (.if_icmp .eq 5, 3) := by decide +kernel
theorem dX9_isHeads_12 : decode cX9_isHeads 12 = .ok (.iconst 0, 1) := by decide +kernel
theorem dX9_isHeads_13 : decode cX9_isHeads 13 = .ok (.ireturn, 1) := by decide +kernel
theorem dX9_isHeads_14 : decode cX9_isHeads 14 = .ok (.iconst 0, 1) := by decide +kernel
theorem dX9_isHeads_15 : decode cX9_isHeads 15 = .ok (.istore_n 3, 1) := by decide +kernel
theorem dX9_isHeads_16 : decode cX9_isHeads 16 = .ok (.iload_n 3, 1) := by decide +kernel
theorem dX9_isHeads_17 : decode cX9_isHeads 17 = .ok (.aload_n 0, 1) := by decide +kernel
theorem dX9_isHeads_18 : decode cX9_isHeads 18 = .ok (.getfield 92, 3) := by decide +kernel
theorem dX9_isHeads_21 : decode cX9_isHeads 21 = .ok (.if_icmp .ge 33, 3) := by decide +kernel
theorem dX9_isHeads_24 : decode cX9_isHeads 24 = .ok (.aload_n 0, 1) := by decide +kernel
theorem dX9_isHeads_25 : decode cX9_isHeads 25 = .ok (.getfield 18, 3) := by decide +kernel
theorem dX9_isHeads_28 : decode cX9_isHeads 28 = .ok (.aload_n 0, 1) := by decide +kernel
theorem dX9_isHeads_29 : decode cX9_isHeads 29 = .ok (.getfield 21, 3) := by decide +kernel
theorem dX9_isHeads_32 : decode cX9_isHeads 32 = .ok (.iload_n 1, 1) := by decide +kernel
theorem dX9_isHeads_33 : decode cX9_isHeads 33 = .ok (.iload_n 3, 1) := by decide +kernel
theorem dX9_isHeads_34 : decode cX9_isHeads 34 = .ok (.iadd, 1) := by decide +kernel
theorem dX9_isHeads_35 : decode cX9_isHeads 35 = .ok (.iaload, 1) := by decide +kernel
theorem dX9_isHeads_36 : decode cX9_isHeads 36 = .ok (.iaload, 1) := by decide +kernel
theorem dX9_isHeads_37 : decode cX9_isHeads 37 = .ok (.aload_n 0, 1) := by decide +kernel
theorem dX9_isHeads_38 : decode cX9_isHeads 38 = .ok (.getfield 27, 3) := by decide +kernel
theorem dX9_isHeads_41 : decode cX9_isHeads 41 = .ok (.iload_n 3, 1) := by decide +kernel
theorem dX9_isHeads_42 : decode cX9_isHeads 42 = .ok (.iaload, 1) := by decide +kernel
theorem dX9_isHeads_43 : decode cX9_isHeads 43 = .ok (.if_icmp .eq 5, 3) := by decide +kernel
theorem dX9_isHeads_46 : decode cX9_isHeads 46 = .ok (.iconst 0, 1) := by decide +kernel
theorem dX9_isHeads_47 : decode cX9_isHeads 47 = .ok (.ireturn, 1) := by decide +kernel
theorem dX9_isHeads_48 : decode cX9_isHeads 48 = .ok (.iinc 3 1, 3) := by decide +kernel
theorem dX9_isHeads_51 : decode cX9_isHeads 51 = .ok (.goto (-35), 3) := by decide +kernel
theorem dX9_isHeads_54 : decode cX9_isHeads 54 = .ok (.iconst 1, 1) := by decide +kernel
theorem dX9_isHeads_55 : decode cX9_isHeads 55 = .ok (.ireturn, 1) := by decide +kernel
def K_X9_isHeads_16 (G : xG) (l : Launch) (d : Nat) (P : Int → xMem → Prop) (v1 v3 : Int) (μ : xMem) : Prop := RR G l d 0 0 false mX9_isHeads (qI P) 16 [some (xr G 33), some (xi v1), none, some (xi v3)] [] LAY μ 0 0
set_option maxRecDepth 20000 in
theorem E_X9_isHeads {G : xG} {l : Launch} {d : Nat} {P : Int → xMem → Prop} {v1 v2 : Int} {μ : xMem} (h : (iR ((v2 - v1) + 1) ∧ iR (μ 33 10) ∧ (((v2 - v1) + 1) = (μ 33 10) → K_X9_isHeads_16 G l (d + 1) P v1 0 μ) ∧ (((v2 - v1) + 1) ≠ (μ 33 10) → P 0 μ))) : CI G l (d + 1) mX9_isHeads [xr G 33, xi v1, xi v2] μ P := by
  refine CC.ofRR (ll := [some (xr G 33), some (xi v1), some (xi v2), none]) (by decide +kernel) (Nat.le_of_ble_eq_true rfl) rfl (fun h => by cases h) ?_
  refine xr_iload_n dX9_isHeads_0 rfl ?_
  refine xr_iload_n dX9_isHeads_1 rfl ?_
  refine xr_isub dX9_isHeads_2 ?_
  refine xr_iconst dX9_isHeads_3 ?_
  refine xr_iadd dX9_isHeads_4 ?_
  refine xr_aload_n dX9_isHeads_5 rfl ?_
  refine xr_getI' (v := μ 33 10) dX9_isHeads_6 fl_X9_92 L_33 rfl rfl rfl ?_
  obtain ⟨q1, q2, hT3, hF4⟩ := h
  refine xr_icmp_eq (tgt := 14) dX9_isHeads_9 (by decide) q1 q2 (fun c => ?_) (fun c => ?_)
  · have h := hT3 c
    refine xr_iconst dX9_isHeads_14 ?_
    refine xr_istore_n' (ll' := [some (xr G 33), some (xi v1), some (xi v2), some (xi 0)]) dX9_isHeads_15 (by decide) rfl rfl ?_
    refine xr_wk (ll' := [some (xr G 33), some (xi v1), none, some (xi 0)]) ⟨rfl, ⟨rfl, ⟨rfl, trivial⟩⟩⟩ ?_
    exact h
  · have h := hF4 c
    refine xr_iconst dX9_isHeads_12 ?_
    exact xr_zret dX9_isHeads_13 rfl (x_nz (by decide)).1 ⟨rfl, _, rfl, x_01 (by decide), h⟩
set_option maxRecDepth 20000 in
theorem B_X9_isHeads_16 {G : xG} {l : Launch} {d : Nat} {P : Int → xMem → Prop} {v1 v3 : Int} {μ : xMem} (h : (iR v3 ∧ iR (μ 33 10) ∧ ((μ 33 10) ≤ v3 → P 1 μ) ∧ (v3 < (μ 33 10) → ((0 ≤ v1 + v3 ∧ v1 + v3 < 9) ∧ ((0 ≤ μ 37 (v1 + v3) ∧ μ 37 (v1 + v3) < 80) ∧ ((0 ≤ v3 ∧ v3 < 10) ∧ (iR (μ 36 (μ 37 (v1 + v3))) ∧ iR (μ 39 v3) ∧ ((μ 36 (μ 37 (v1 + v3))) = (μ 39 v3) → K_X9_isHeads_16 G l (d + 1) P v1 (v3 + 1) μ) ∧ ((μ 36 (μ 37 (v1 + v3))) ≠ (μ 39 v3) → P 0 μ)))))))) : K_X9_isHeads_16 G l (d + 1) P v1 v3 μ := by
  unfold K_X9_isHeads_16
  refine xr_iload_n dX9_isHeads_16 rfl ?_
  refine xr_aload_n dX9_isHeads_17 rfl ?_
  refine xr_getI' (v := μ 33 10) dX9_isHeads_18 fl_X9_92 L_33 rfl rfl rfl ?_
  obtain ⟨q1, q2, hT3, hF4⟩ := h
  refine xr_icmp_ge (tgt := 54) dX9_isHeads_21 (by decide) q1 q2 (fun c => ?_) (fun c => ?_)
  · have h := hT3 c
    refine xr_iconst dX9_isHeads_54 ?_
    exact xr_zret dX9_isHeads_55 rfl (x_nz (by decide)).1 ⟨rfl, _, rfl, x_01 (by decide), h⟩
  · have h := hF4 (Int.not_le.mp c)
    refine xr_aload_n dX9_isHeads_24 rfl ?_
    refine xr_getR dX9_isHeads_25 fl_X9_18 L_33 rfl ?_
    refine xr_aload_n dX9_isHeads_28 rfl ?_
    refine xr_getR dX9_isHeads_29 fl_X9_21 L_33 rfl ?_
    refine xr_iload_n dX9_isHeads_32 rfl ?_
    refine xr_iload_n dX9_isHeads_33 rfl ?_
    refine xr_iadd dX9_isHeads_34 ?_
    obtain ⟨q5, h⟩ := h
    refine xr_iaload' (v := μ 37 (v1 + v3)) dX9_isHeads_35 L_37 rfl (by decide) q5 rfl ?_
    obtain ⟨q6, h⟩ := h
    refine xr_iaload' (v := μ 36 (μ 37 (v1 + v3))) dX9_isHeads_36 L_36 rfl (by decide) q6 rfl ?_
    refine xr_aload_n dX9_isHeads_37 rfl ?_
    refine xr_getR dX9_isHeads_38 fl_X9_27 L_33 rfl ?_
    refine xr_iload_n dX9_isHeads_41 rfl ?_
    obtain ⟨q7, h⟩ := h
    refine xr_iaload' (v := μ 39 v3) dX9_isHeads_42 L_39 rfl (by decide) q7 rfl ?_
    obtain ⟨q8, q9, hT10, hF11⟩ := h
    refine xr_icmp_eq (tgt := 48) dX9_isHeads_43 (by decide) q8 q9 (fun c => ?_) (fun c => ?_)
    · have h := hT10 c
      refine xr_iinc' (ll' := [some (xr G 33), some (xi v1), none, some (xi (v3 + 1))]) dX9_isHeads_48 rfl (by decide) rfl rfl ?_
      refine xr_goto (tgt := 16) dX9_isHeads_51 (by decide) ?_
      exact h
    · have h := hF11 c
      refine xr_iconst dX9_isHeads_46 ?_
      exact xr_zret dX9_isHeads_47 rfl (x_nz (by decide)).1 ⟨rfl, _, rfl, x_01 (by decide), h⟩
theorem dX9_isTails_0 : decode cX9_isTails 0 = .ok (.iload_n 2, 1) := by decide +kernel
theorem dX9_isTails_1 : decode cX9_isTails 1 = .ok (.iload_n 1, 1) := by decide +kernel
theorem dX9_isTails_2 : decode cX9_isTails 2 = .ok (.isub, 1) := by decide +kernel
theorem dX9_isTails_3 : decode cX9_isTails 3 = .ok (.iconst 1, 1) := by decide +kernel
theorem dX9_isTails_4 : decode cX9_isTails 4 = .ok (.iadd, 1) := by decide +kernel
theorem dX9_isTails_5 : decode cX9_isTails 5 = .ok (.aload_n 0, 1) := by decide +kernel
theorem dX9_isTails_6 : decode cX9_isTails 6 = .ok (.getfield 92, 3) := by decide +kernel
theorem dX9_isTails_9 : decode cX9_isTails 9 = .ok (.if_icmp .eq 5, 3) := by decide +kernel
theorem dX9_isTails_12 : decode cX9_isTails 12 = .ok (.iconst 0, 1) := by decide +kernel
theorem dX9_isTails_13 : decode cX9_isTails 13 = .ok (.ireturn, 1) := by decide +kernel
theorem dX9_isTails_14 : decode cX9_isTails 14 = .ok (.iconst 0, 1) := by decide +kernel
theorem dX9_isTails_15 : decode cX9_isTails 15 = .ok (.istore_n 3, 1) := by decide +kernel
theorem dX9_isTails_16 : decode cX9_isTails 16 = .ok (.iload_n 3, 1) := by decide +kernel
theorem dX9_isTails_17 : decode cX9_isTails 17 = .ok (.aload_n 0, 1) := by decide +kernel
theorem dX9_isTails_18 : decode cX9_isTails 18 = .ok (.getfield 92, 3) := by decide +kernel
theorem dX9_isTails_21 : decode cX9_isTails 21 = .ok (.if_icmp .ge 37, 3) := by decide +kernel
theorem dX9_isTails_24 : decode cX9_isTails 24 = .ok (.aload_n 0, 1) := by decide +kernel
theorem dX9_isTails_25 : decode cX9_isTails 25 = .ok (.getfield 18, 3) := by decide +kernel
theorem dX9_isTails_28 : decode cX9_isTails 28 = .ok (.aload_n 0, 1) := by decide +kernel
theorem dX9_isTails_29 : decode cX9_isTails 29 = .ok (.getfield 21, 3) := by decide +kernel
theorem dX9_isTails_32 : decode cX9_isTails 32 = .ok (.iload_n 1, 1) := by decide +kernel
theorem dX9_isTails_33 : decode cX9_isTails 33 = .ok (.iload_n 3, 1) := by decide +kernel
theorem dX9_isTails_34 : decode cX9_isTails 34 = .ok (.iadd, 1) := by decide +kernel
theorem dX9_isTails_35 : decode cX9_isTails 35 = .ok (.iconst 1, 1) := by decide +kernel
theorem dX9_isTails_36 : decode cX9_isTails 36 = .ok (.iadd, 1) := by decide +kernel
theorem dX9_isTails_37 : decode cX9_isTails 37 = .ok (.iaload, 1) := by decide +kernel
theorem dX9_isTails_38 : decode cX9_isTails 38 = .ok (.iconst 1, 1) := by decide +kernel
theorem dX9_isTails_39 : decode cX9_isTails 39 = .ok (.isub, 1) := by decide +kernel
theorem dX9_isTails_40 : decode cX9_isTails 40 = .ok (.iaload, 1) := by decide +kernel
theorem dX9_isTails_41 : decode cX9_isTails 41 = .ok (.aload_n 0, 1) := by decide +kernel
theorem dX9_isTails_42 : decode cX9_isTails 42 = .ok (.getfield 27, 3) := by decide +kernel
theorem dX9_isTails_45 : decode cX9_isTails 45 = .ok (.iload_n 3, 1) := by decide +kernel
theorem dX9_isTails_46 : decode cX9_isTails 46 = .ok (.iaload, 1) := by decide +kernel
theorem dX9_isTails_47 : decode cX9_isTails 47 = .ok (.if_icmp .eq 5, 3) := by decide +kernel
theorem dX9_isTails_50 : decode cX9_isTails 50 = .ok (.iconst 0, 1) := by decide +kernel
theorem dX9_isTails_51 : decode cX9_isTails 51 = .ok (.ireturn, 1) := by decide +kernel
theorem dX9_isTails_52 : decode cX9_isTails 52 = .ok (.iinc 3 1, 3) := by decide +kernel
theorem dX9_isTails_55 : decode cX9_isTails 55 = .ok (.goto (-39), 3) := by decide +kernel
theorem dX9_isTails_58 : decode cX9_isTails 58 = .ok (.iconst 1, 1) := by decide +kernel
theorem dX9_isTails_59 : decode cX9_isTails 59 = .ok (.ireturn, 1) := by decide +kernel
def K_X9_isTails_16 (G : xG) (l : Launch) (d : Nat) (P : Int → xMem → Prop) (v1 v3 : Int) (μ : xMem) : Prop := RR G l d 0 0 false mX9_isTails (qI P) 16 [some (xr G 33), some (xi v1), none, some (xi v3)] [] LAY μ 0 0
set_option maxRecDepth 20000 in
theorem E_X9_isTails {G : xG} {l : Launch} {d : Nat} {P : Int → xMem → Prop} {v1 v2 : Int} {μ : xMem} (h : (iR ((v2 - v1) + 1) ∧ iR (μ 33 10) ∧ (((v2 - v1) + 1) = (μ 33 10) → K_X9_isTails_16 G l (d + 1) P v1 0 μ) ∧ (((v2 - v1) + 1) ≠ (μ 33 10) → P 0 μ))) : CI G l (d + 1) mX9_isTails [xr G 33, xi v1, xi v2] μ P := by
  refine CC.ofRR (ll := [some (xr G 33), some (xi v1), some (xi v2), none]) (by decide +kernel) (Nat.le_of_ble_eq_true rfl) rfl (fun h => by cases h) ?_
  refine xr_iload_n dX9_isTails_0 rfl ?_
  refine xr_iload_n dX9_isTails_1 rfl ?_
  refine xr_isub dX9_isTails_2 ?_
  refine xr_iconst dX9_isTails_3 ?_
  refine xr_iadd dX9_isTails_4 ?_
  refine xr_aload_n dX9_isTails_5 rfl ?_
  refine xr_getI' (v := μ 33 10) dX9_isTails_6 fl_X9_92 L_33 rfl rfl rfl ?_
  obtain ⟨q1, q2, hT3, hF4⟩ := h
  refine xr_icmp_eq (tgt := 14) dX9_isTails_9 (by decide) q1 q2 (fun c => ?_) (fun c => ?_)
  · have h := hT3 c
    refine xr_iconst dX9_isTails_14 ?_
    refine xr_istore_n' (ll' := [some (xr G 33), some (xi v1), some (xi v2), some (xi 0)]) dX9_isTails_15 (by decide) rfl rfl ?_
    refine xr_wk (ll' := [some (xr G 33), some (xi v1), none, some (xi 0)]) ⟨rfl, ⟨rfl, ⟨rfl, trivial⟩⟩⟩ ?_
    exact h
  · have h := hF4 c
    refine xr_iconst dX9_isTails_12 ?_
    exact xr_zret dX9_isTails_13 rfl (x_nz (by decide)).1 ⟨rfl, _, rfl, x_01 (by decide), h⟩
set_option maxRecDepth 20000 in
theorem B_X9_isTails_16 {G : xG} {l : Launch} {d : Nat} {P : Int → xMem → Prop} {v1 v3 : Int} {μ : xMem} (h : (iR v3 ∧ iR (μ 33 10) ∧ ((μ 33 10) ≤ v3 → P 1 μ) ∧ (v3 < (μ 33 10) → ((0 ≤ (v1 + v3) + 1 ∧ (v1 + v3) + 1 < 9) ∧ ((0 ≤ (μ 37 ((v1 + v3) + 1)) - 1 ∧ (μ 37 ((v1 + v3) + 1)) - 1 < 80) ∧ ((0 ≤ v3 ∧ v3 < 10) ∧ (iR (μ 36 ((μ 37 ((v1 + v3) + 1)) - 1)) ∧ iR (μ 39 v3) ∧ ((μ 36 ((μ 37 ((v1 + v3) + 1)) - 1)) = (μ 39 v3) → K_X9_isTails_16 G l (d + 1) P v1 (v3 + 1) μ) ∧ ((μ 36 ((μ 37 ((v1 + v3) + 1)) - 1)) ≠ (μ 39 v3) → P 0 μ)))))))) : K_X9_isTails_16 G l (d + 1) P v1 v3 μ := by
  unfold K_X9_isTails_16
  refine xr_iload_n dX9_isTails_16 rfl ?_
  refine xr_aload_n dX9_isTails_17 rfl ?_
  refine xr_getI' (v := μ 33 10) dX9_isTails_18 fl_X9_92 L_33 rfl rfl rfl ?_
  obtain ⟨q1, q2, hT3, hF4⟩ := h
  refine xr_icmp_ge (tgt := 58) dX9_isTails_21 (by decide) q1 q2 (fun c => ?_) (fun c => ?_)
  · have h := hT3 c
    refine xr_iconst dX9_isTails_58 ?_
    exact xr_zret dX9_isTails_59 rfl (x_nz (by decide)).1 ⟨rfl, _, rfl, x_01 (by decide), h⟩
  · have h := hF4 (Int.not_le.mp c)
    refine xr_aload_n dX9_isTails_24 rfl ?_
    refine xr_getR dX9_isTails_25 fl_X9_18 L_33 rfl ?_
    refine xr_aload_n dX9_isTails_28 rfl ?_
    refine xr_getR dX9_isTails_29 fl_X9_21 L_33 rfl ?_
    refine xr_iload_n dX9_isTails_32 rfl ?_
    refine xr_iload_n dX9_isTails_33 rfl ?_
    refine xr_iadd dX9_isTails_34 ?_
    refine xr_iconst dX9_isTails_35 ?_
    refine xr_iadd dX9_isTails_36 ?_
    obtain ⟨q5, h⟩ := h
    refine xr_iaload' (v := μ 37 ((v1 + v3) + 1)) dX9_isTails_37 L_37 rfl (by decide) q5 rfl ?_
    refine xr_iconst dX9_isTails_38 ?_
    refine xr_isub dX9_isTails_39 ?_
    obtain ⟨q6, h⟩ := h
    refine xr_iaload' (v := μ 36 ((μ 37 ((v1 + v3) + 1)) - 1)) dX9_isTails_40 L_36 rfl (by decide) q6 rfl ?_
    refine xr_aload_n dX9_isTails_41 rfl ?_
    refine xr_getR dX9_isTails_42 fl_X9_27 L_33 rfl ?_
    refine xr_iload_n dX9_isTails_45 rfl ?_
    obtain ⟨q7, h⟩ := h
    refine xr_iaload' (v := μ 39 v3) dX9_isTails_46 L_39 rfl (by decide) q7 rfl ?_
    obtain ⟨q8, q9, hT10, hF11⟩ := h
    refine xr_icmp_eq (tgt := 52) dX9_isTails_47 (by decide) q8 q9 (fun c => ?_) (fun c => ?_)
    · have h := hT10 c
      refine xr_iinc' (ll' := [some (xr G 33), some (xi v1), none, some (xi (v3 + 1))]) dX9_isTails_52 rfl (by decide) rfl rfl ?_
      refine xr_goto (tgt := 16) dX9_isTails_55 (by decide) ?_
      exact h
    · have h := hF11 c
      refine xr_iconst dX9_isTails_50 ?_
      exact xr_zret dX9_isTails_51 rfl (x_nz (by decide)).1 ⟨rfl, _, rfl, x_01 (by decide), h⟩
theorem dX9_isHidden_0 : decode cX9_isHidden 0 = .ok (.iload_n 1, 1) := by decide +kernel
theorem dX9_isHidden_1 : decode cX9_isHidden 1 = .ok (.iload_n 2, 1) := by decide +kernel
theorem dX9_isHidden_2 : decode cX9_isHidden 2 = .ok (.if_icmp .lt 5, 3) := by decide +kernel
theorem dX9_isHidden_5 : decode cX9_isHidden 5 = .ok (.iconst 0, 1) := by decide +kernel
theorem dX9_isHidden_6 : decode cX9_isHidden 6 = .ok (.ireturn, 1) := by decide +kernel
theorem dX9_isHidden_7 : decode cX9_isHidden 7 = .ok (.aload_n 0, 1) := by decide +kernel
theorem dX9_isHidden_8 : decode cX9_isHidden 8 = .ok (.getfield 21, 3) := by decide +kernel
theorem dX9_isHidden_11 : decode cX9_isHidden 11 = .ok (.iload_n 1, 1) := by decide +kernel
theorem dX9_isHidden_12 : decode cX9_isHidden 12 = .ok (.iconst 1, 1) := by decide +kernel
theorem dX9_isHidden_13 : decode cX9_isHidden 13 = .ok (.iadd, 1) := by decide +kernel
theorem dX9_isHidden_14 : decode cX9_isHidden 14 = .ok (.iaload, 1) := by decide +kernel
theorem dX9_isHidden_15 : decode cX9_isHidden 15 = .ok (.istore_n 3, 1) := by decide +kernel
theorem dX9_isHidden_16 : decode cX9_isHidden 16 = .ok (.iload_n 3, 1) := by decide +kernel
theorem dX9_isHidden_17 : decode cX9_isHidden 17 = .ok (.aload_n 0, 1) := by decide +kernel
theorem dX9_isHidden_18 : decode cX9_isHidden 18 = .ok (.getfield 21, 3) := by decide +kernel
theorem dX9_isHidden_21 : decode cX9_isHidden 21 = .ok (.iload_n 1, 1) := by decide +kernel
theorem dX9_isHidden_22 : decode cX9_isHidden 22 = .ok (.iaload, 1) := by decide +kernel
theorem dX9_isHidden_23 : decode cX9_isHidden 23 = .ok (.isub, 1) := by decide +kernel
theorem dX9_isHidden_24 : decode cX9_isHidden 24 = .ok (.istore 4, 2) := by decide +kernel
theorem dX9_isHidden_26 : decode cX9_isHidden 26 = .ok (.aload_n 0, 1) := by decide +kernel
theorem dX9_isHidden_27 : decode cX9_isHidden 27 = .ok (.getfield 21, 3) := by decide +kernel
theorem dX9_isHidden_30 : decode cX9_isHidden 30 = .ok (.iload_n 2, 1) := by decide +kernel
theorem dX9_isHidden_31 : decode cX9_isHidden 31 = .ok (.iconst 1, 1) := by decide +kernel
theorem dX9_isHidden_32 : decode cX9_isHidden 32 = .ok (.iadd, 1) := by decide +kernel
theorem dX9_isHidden_33 : decode cX9_isHidden 33 = .ok (.iaload, 1) := by decide +kernel
theorem dX9_isHidden_34 : decode cX9_isHidden 34 = .ok (.aload_n 0, 1) := by decide +kernel
theorem dX9_isHidden_35 : decode cX9_isHidden 35 = .ok (.getfield 21, 3) := by decide +kernel
theorem dX9_isHidden_38 : decode cX9_isHidden 38 = .ok (.iload_n 2, 1) := by decide +kernel
theorem dX9_isHidden_39 : decode cX9_isHidden 39 = .ok (.iaload, 1) := by decide +kernel
theorem dX9_isHidden_40 : decode cX9_isHidden 40 = .ok (.isub, 1) := by decide +kernel
theorem dX9_isHidden_41 : decode cX9_isHidden 41 = .ok (.istore 5, 2) := by decide +kernel
theorem dX9_isHidden_43 : decode cX9_isHidden 43 = .ok (.aload_n 0, 1) := by decide +kernel
theorem dX9_isHidden_44 : decode cX9_isHidden 44 = .ok (.getfield 21, 3) := by decide +kernel
theorem dX9_isHidden_47 : decode cX9_isHidden 47 = .ok (.iload_n 2, 1) := by decide +kernel
theorem dX9_isHidden_48 : decode cX9_isHidden 48 = .ok (.iaload, 1) := by decide +kernel
theorem dX9_isHidden_49 : decode cX9_isHidden 49 = .ok (.iload_n 3, 1) := by decide +kernel
theorem dX9_isHidden_50 : decode cX9_isHidden 50 = .ok (.isub, 1) := by decide +kernel
theorem dX9_isHidden_51 : decode cX9_isHidden 51 = .ok (.istore 6, 2) := by decide +kernel
theorem dX9_isHidden_53 : decode cX9_isHidden 53 = .ok (.iconst 1, 1) := by decide +kernel
theorem dX9_isHidden_54 : decode cX9_isHidden 54 = .ok (.istore 7, 2) := by decide +kernel
theorem dX9_isHidden_56 : decode cX9_isHidden 56 = .ok (.iload 7, 2) := by decide +kernel
theorem dX9_isHidden_58 : decode cX9_isHidden 58 = .ok (.iload 4, 2) := by decide +kernel
theorem dX9_isHidden_60 : decode cX9_isHidden 60 = .ok (.if_icmp .ge 47, 3) := by decide +kernel
theorem dX9_isHidden_63 : decode cX9_isHidden 63 = .ok (.aload_n 0, 1) := by decide +kernel
theorem dX9_isHidden_64 : decode cX9_isHidden 64 = .ok (.getfield 92, 3) := by decide +kernel
theorem dX9_isHidden_67 : decode cX9_isHidden 67 = .ok (.iload 6, 2) := by decide +kernel
theorem dX9_isHidden_69 : decode cX9_isHidden 69 = .ok (.isub, 1) := by decide +kernel
theorem dX9_isHidden_70 : decode cX9_isHidden 70 = .ok (.iload 7, 2) := by decide +kernel
theorem dX9_isHidden_72 : decode cX9_isHidden 72 = .ok (.isub, 1) := by decide +kernel
theorem dX9_isHidden_73 : decode cX9_isHidden 73 = .ok (.istore 8, 2) := by decide +kernel
theorem dX9_isHidden_75 : decode cX9_isHidden 75 = .ok (.iload 8, 2) := by decide +kernel
theorem dX9_isHidden_77 : decode cX9_isHidden 77 = .ok (.iconst 1, 1) := by decide +kernel
theorem dX9_isHidden_78 : decode cX9_isHidden 78 = .ok (.if_icmp .lt 23, 3) := by decide +kernel
theorem dX9_isHidden_81 : decode cX9_isHidden 81 = .ok (.iload 8, 2) := by decide +kernel
theorem dX9_isHidden_83 : decode cX9_isHidden 83 = .ok (.iload 5, 2) := by decide +kernel
theorem dX9_isHidden_85 : decode cX9_isHidden 85 = .ok (.if_icmp .ge 16, 3) := by decide +kernel
theorem dX9_isHidden_88 : decode cX9_isHidden 88 = .ok (.aload_n 0, 1) := by decide +kernel
theorem dX9_isHidden_89 : decode cX9_isHidden 89 = .ok (.iload_n 3, 1) := by decide +kernel
theorem dX9_isHidden_90 : decode cX9_isHidden 90 = .ok (.iload 7, 2) := by decide +kernel
theorem dX9_isHidden_92 : decode cX9_isHidden 92 = .ok (.isub, 1) := by decide +kernel
theorem dX9_isHidden_93 : decode cX9_isHidden 93 = .ok (.invokevirtual 118, 3) := by decide +kernel
theorem dX9_isHidden_96 : decode cX9_isHidden 96 = .ok (.ifCond .eq 5, 3) := by decide +kernel
theorem dX9_isHidden_99 : decode cX9_isHidden 99 = .ok (.iconst 1, 1) := by decide +kernel
theorem dX9_isHidden_100 : decode cX9_isHidden 100 = .ok (.ireturn, 1) := by decide +kernel
theorem dX9_isHidden_101 : decode cX9_isHidden 101 = .ok (.iinc 7 1, 3) := by decide +kernel
theorem dX9_isHidden_104 : decode cX9_isHidden 104 = .ok (.goto (-48), 3) := by decide +kernel
theorem dX9_isHidden_107 : decode cX9_isHidden 107 = .ok (.iconst 0, 1) := by decide +kernel
theorem dX9_isHidden_108 : decode cX9_isHidden 108 = .ok (.ireturn, 1) := by decide +kernel
def K_X9_isHidden_56 (G : xG) (l : Launch) (d : Nat) (P : Int → xMem → Prop) (v3 v4 v5 v6 v7 : Int) (μ : xMem) : Prop := RR G l d 0 0 false mX9_isHidden (qI P) 56 [some (xr G 33), none, none, some (xi v3), some (xi v4), some (xi v5), some (xi v6), some (xi v7), none] [] LAY μ 0 0
set_option maxRecDepth 20000 in
theorem E_X9_isHidden {G : xG} {l : Launch} {d : Nat} {P : Int → xMem → Prop} {v1 v2 : Int} {μ : xMem} (h : (iR v1 ∧ iR v2 ∧ (v1 < v2 → ((0 ≤ v1 + 1 ∧ v1 + 1 < 9) ∧ ((0 ≤ v1 ∧ v1 < 9) ∧ ((0 ≤ v2 + 1 ∧ v2 + 1 < 9) ∧ ((0 ≤ v2 ∧ v2 < 9) ∧ K_X9_isHidden_56 G l (d + 1) P (μ 37 (v1 + 1)) ((μ 37 (v1 + 1)) - (μ 37 v1)) ((μ 37 (v2 + 1)) - (μ 37 v2)) ((μ 37 v2) - (μ 37 (v1 + 1))) 1 μ))))) ∧ (v2 ≤ v1 → P 0 μ))) : CI G l (d + 1) mX9_isHidden [xr G 33, xi v1, xi v2] μ P := by
  refine CC.ofRR (ll := [some (xr G 33), some (xi v1), some (xi v2), none, none, none, none, none, none]) (by decide +kernel) (Nat.le_of_ble_eq_true rfl) rfl (fun h => by cases h) ?_
  refine xr_iload_n dX9_isHidden_0 rfl ?_
  refine xr_iload_n dX9_isHidden_1 rfl ?_
  obtain ⟨q1, q2, hT3, hF4⟩ := h
  refine xr_icmp_lt (tgt := 7) dX9_isHidden_2 (by decide) q1 q2 (fun c => ?_) (fun c => ?_)
  · have h := hT3 c
    refine xr_aload_n dX9_isHidden_7 rfl ?_
    refine xr_getR dX9_isHidden_8 fl_X9_21 L_33 rfl ?_
    refine xr_iload_n dX9_isHidden_11 rfl ?_
    refine xr_iconst dX9_isHidden_12 ?_
    refine xr_iadd dX9_isHidden_13 ?_
    obtain ⟨q5, h⟩ := h
    refine xr_iaload' (v := μ 37 (v1 + 1)) dX9_isHidden_14 L_37 rfl (by decide) q5 rfl ?_
    refine xr_istore_n' (ll' := [some (xr G 33), some (xi v1), some (xi v2), some (xi (μ 37 (v1 + 1))), none, none, none, none, none]) dX9_isHidden_15 (by decide) rfl rfl ?_
    refine xr_iload_n dX9_isHidden_16 rfl ?_
    refine xr_aload_n dX9_isHidden_17 rfl ?_
    refine xr_getR dX9_isHidden_18 fl_X9_21 L_33 rfl ?_
    refine xr_iload_n dX9_isHidden_21 rfl ?_
    obtain ⟨q6, h⟩ := h
    refine xr_iaload' (v := μ 37 v1) dX9_isHidden_22 L_37 rfl (by decide) q6 rfl ?_
    refine xr_isub dX9_isHidden_23 ?_
    refine xr_istore' (ll' := [some (xr G 33), some (xi v1), some (xi v2), some (xi (μ 37 (v1 + 1))), some (xi ((μ 37 (v1 + 1)) - (μ 37 v1))), none, none, none, none]) dX9_isHidden_24 (by decide) rfl rfl ?_
    refine xr_aload_n dX9_isHidden_26 rfl ?_
    refine xr_getR dX9_isHidden_27 fl_X9_21 L_33 rfl ?_
    refine xr_iload_n dX9_isHidden_30 rfl ?_
    refine xr_iconst dX9_isHidden_31 ?_
    refine xr_iadd dX9_isHidden_32 ?_
    obtain ⟨q7, h⟩ := h
    refine xr_iaload' (v := μ 37 (v2 + 1)) dX9_isHidden_33 L_37 rfl (by decide) q7 rfl ?_
    refine xr_aload_n dX9_isHidden_34 rfl ?_
    refine xr_getR dX9_isHidden_35 fl_X9_21 L_33 rfl ?_
    refine xr_iload_n dX9_isHidden_38 rfl ?_
    obtain ⟨q8, h⟩ := h
    refine xr_iaload' (v := μ 37 v2) dX9_isHidden_39 L_37 rfl (by decide) q8 rfl ?_
    refine xr_isub dX9_isHidden_40 ?_
    refine xr_istore' (ll' := [some (xr G 33), some (xi v1), some (xi v2), some (xi (μ 37 (v1 + 1))), some (xi ((μ 37 (v1 + 1)) - (μ 37 v1))), some (xi ((μ 37 (v2 + 1)) - (μ 37 v2))), none, none, none]) dX9_isHidden_41 (by decide) rfl rfl ?_
    refine xr_aload_n dX9_isHidden_43 rfl ?_
    refine xr_getR dX9_isHidden_44 fl_X9_21 L_33 rfl ?_
    refine xr_iload_n dX9_isHidden_47 rfl ?_
    refine xr_iaload' (v := μ 37 v2) dX9_isHidden_48 L_37 rfl (by decide) q8 rfl ?_
    refine xr_iload_n dX9_isHidden_49 rfl ?_
    refine xr_isub dX9_isHidden_50 ?_
    refine xr_istore' (ll' := [some (xr G 33), some (xi v1), some (xi v2), some (xi (μ 37 (v1 + 1))), some (xi ((μ 37 (v1 + 1)) - (μ 37 v1))), some (xi ((μ 37 (v2 + 1)) - (μ 37 v2))), some (xi ((μ 37 v2) - (μ 37 (v1 + 1)))), none, none]) dX9_isHidden_51 (by decide) rfl rfl ?_
    refine xr_iconst dX9_isHidden_53 ?_
    refine xr_istore' (ll' := [some (xr G 33), some (xi v1), some (xi v2), some (xi (μ 37 (v1 + 1))), some (xi ((μ 37 (v1 + 1)) - (μ 37 v1))), some (xi ((μ 37 (v2 + 1)) - (μ 37 v2))), some (xi ((μ 37 v2) - (μ 37 (v1 + 1)))), some (xi 1), none]) dX9_isHidden_54 (by decide) rfl rfl ?_
    refine xr_wk (ll' := [some (xr G 33), none, none, some (xi (μ 37 (v1 + 1))), some (xi ((μ 37 (v1 + 1)) - (μ 37 v1))), some (xi ((μ 37 (v2 + 1)) - (μ 37 v2))), some (xi ((μ 37 v2) - (μ 37 (v1 + 1)))), some (xi 1), none]) ⟨rfl, ⟨rfl, ⟨rfl, ⟨rfl, ⟨rfl, ⟨rfl, trivial⟩⟩⟩⟩⟩⟩ ?_
    exact h
  · have h := hF4 (Int.not_lt.mp c)
    refine xr_iconst dX9_isHidden_5 ?_
    exact xr_zret dX9_isHidden_6 rfl (x_nz (by decide)).1 ⟨rfl, _, rfl, x_01 (by decide), h⟩
set_option maxRecDepth 20000 in
theorem B_X9_isHidden_56 {G : xG} {l : Launch} {d : Nat} {P : Int → xMem → Prop} {v3 v4 v5 v6 v7 : Int} {μ : xMem} (h : (iR v7 ∧ iR v4 ∧ (v4 ≤ v7 → P 0 μ) ∧ (v7 < v4 → (iR (((μ 33 10) - v6) - v7) ∧ ((((μ 33 10) - v6) - v7) < 1 → K_X9_isHidden_56 G l (d + 1) P v3 v4 v5 v6 (v7 + 1) μ) ∧ (1 ≤ (((μ 33 10) - v6) - v7) → (iR v5 ∧ (v5 ≤ (((μ 33 10) - v6) - v7) → K_X9_isHidden_56 G l (d + 1) P v3 v4 v5 v6 (v7 + 1) μ) ∧ ((((μ 33 10) - v6) - v7) < v5 → CI G l d mX9_standsAt [xr G 33, xi (v3 - v7)] μ (fun r11 m12 => ((r11 = 0 → K_X9_isHidden_56 G l (d + 1) P v3 v4 v5 v6 (v7 + 1) m12) ∧ (r11 ≠ 0 → P 1 m12)))))))))) : K_X9_isHidden_56 G l (d + 1) P v3 v4 v5 v6 v7 μ := by
  unfold K_X9_isHidden_56
  refine xr_iload dX9_isHidden_56 rfl ?_
  refine xr_iload dX9_isHidden_58 rfl ?_
  obtain ⟨q1, q2, hT3, hF4⟩ := h
  refine xr_icmp_ge (tgt := 107) dX9_isHidden_60 (by decide) q1 q2 (fun c => ?_) (fun c => ?_)
  · have h := hT3 c
    refine xr_iconst dX9_isHidden_107 ?_
    exact xr_zret dX9_isHidden_108 rfl (x_nz (by decide)).1 ⟨rfl, _, rfl, x_01 (by decide), h⟩
  · have h := hF4 (Int.not_le.mp c)
    refine xr_aload_n dX9_isHidden_63 rfl ?_
    refine xr_getI' (v := μ 33 10) dX9_isHidden_64 fl_X9_92 L_33 rfl rfl rfl ?_
    refine xr_iload dX9_isHidden_67 rfl ?_
    refine xr_isub dX9_isHidden_69 ?_
    refine xr_iload dX9_isHidden_70 rfl ?_
    refine xr_isub dX9_isHidden_72 ?_
    refine xr_istore' (ll' := [some (xr G 33), none, none, some (xi v3), some (xi v4), some (xi v5), some (xi v6), some (xi v7), some (xi (((μ 33 10) - v6) - v7))]) dX9_isHidden_73 (by decide) rfl rfl ?_
    refine xr_iload dX9_isHidden_75 rfl ?_
    refine xr_iconst dX9_isHidden_77 ?_
    obtain ⟨q5, hT6, hF7⟩ := h
    refine xr_icmp_lt (tgt := 101) dX9_isHidden_78 (by decide) q5 (by decide) (fun c => ?_) (fun c => ?_)
    · have h := hT6 c
      refine xr_iinc' (ll' := [some (xr G 33), none, none, some (xi v3), some (xi v4), some (xi v5), some (xi v6), some (xi (v7 + 1)), some (xi (((μ 33 10) - v6) - v7))]) dX9_isHidden_101 rfl (by decide) rfl rfl ?_
      refine xr_goto (tgt := 56) dX9_isHidden_104 (by decide) ?_
      refine xr_wk (ll' := [some (xr G 33), none, none, some (xi v3), some (xi v4), some (xi v5), some (xi v6), some (xi (v7 + 1)), none]) ⟨rfl, ⟨rfl, ⟨rfl, ⟨rfl, ⟨rfl, ⟨rfl, trivial⟩⟩⟩⟩⟩⟩ ?_
      exact h
    · have h := hF7 (Int.not_lt.mp c)
      refine xr_iload dX9_isHidden_81 rfl ?_
      refine xr_iload dX9_isHidden_83 rfl ?_
      obtain ⟨q8, hT9, hF10⟩ := h
      refine xr_icmp_ge (tgt := 101) dX9_isHidden_85 (by decide) q5 q8 (fun c => ?_) (fun c => ?_)
      · have h := hT9 c
        refine xr_iinc' (ll' := [some (xr G 33), none, none, some (xi v3), some (xi v4), some (xi v5), some (xi v6), some (xi (v7 + 1)), some (xi (((μ 33 10) - v6) - v7))]) dX9_isHidden_101 rfl (by decide) rfl rfl ?_
        refine xr_goto (tgt := 56) dX9_isHidden_104 (by decide) ?_
        refine xr_wk (ll' := [some (xr G 33), none, none, some (xi v3), some (xi v4), some (xi v5), some (xi v6), some (xi (v7 + 1)), none]) ⟨rfl, ⟨rfl, ⟨rfl, ⟨rfl, ⟨rfl, ⟨rfl, trivial⟩⟩⟩⟩⟩⟩ ?_
        exact h
      · have h := hF10 (Int.not_le.mp c)
        refine xr_aload_n dX9_isHidden_88 rfl ?_
        refine xr_iload_n dX9_isHidden_89 rfl ?_
        refine xr_iload dX9_isHidden_90 rfl ?_
        refine xr_isub dX9_isHidden_92 ?_
        refine xr_cvI (As := [xi (v3 - v7)]) dX9_isHidden_93 mi_X9_standsAt ml_X9_118 se_X9_standsAt L_33 rfl rfl rfl (Nat.le_of_ble_eq_true rfl) h (fun r11 m12 hr11 h => ?_)
        obtain ⟨hT13, hF14⟩ := h
        refine xr_if_eq (tgt := 101) dX9_isHidden_96 (by decide) hr11  (fun c => ?_) (fun c => ?_)
        · have h := hT13 c
          refine xr_iinc' (ll' := [some (xr G 33), none, none, some (xi v3), some (xi v4), some (xi v5), some (xi v6), some (xi (v7 + 1)), some (xi (((μ 33 10) - v6) - v7))]) dX9_isHidden_101 rfl (by decide) rfl rfl ?_
          refine xr_goto (tgt := 56) dX9_isHidden_104 (by decide) ?_
          refine xr_wk (ll' := [some (xr G 33), none, none, some (xi v3), some (xi v4), some (xi v5), some (xi v6), some (xi (v7 + 1)), none]) ⟨rfl, ⟨rfl, ⟨rfl, ⟨rfl, ⟨rfl, ⟨rfl, trivial⟩⟩⟩⟩⟩⟩ ?_
          exact h
        · have h := hF14 c
          refine xr_iconst dX9_isHidden_99 ?_
          exact xr_zret dX9_isHidden_100 rfl (x_nz (by decide)).1 ⟨rfl, _, rfl, x_01 (by decide), h⟩
theorem dX9_standsAt_0 : decode cX9_standsAt 0 = .ok (.iconst 0, 1) := by decide +kernel
theorem dX9_standsAt_1 : decode cX9_standsAt 1 = .ok (.istore_n 2, 1) := by decide +kernel
theorem dX9_standsAt_2 : decode cX9_standsAt 2 = .ok (.iload_n 2, 1) := by decide +kernel
theorem dX9_standsAt_3 : decode cX9_standsAt 3 = .ok (.aload_n 0, 1) := by decide +kernel
theorem dX9_standsAt_4 : decode cX9_standsAt 4 = .ok (.getfield 92, 3) := by decide +kernel
theorem dX9_standsAt_7 : decode cX9_standsAt 7 = .ok (.if_icmp .ge 28, 3) := by decide +kernel
theorem dX9_standsAt_10 : decode cX9_standsAt 10 = .ok (.aload_n 0, 1) := by decide +kernel
theorem dX9_standsAt_11 : decode cX9_standsAt 11 = .ok (.getfield 18, 3) := by decide +kernel
theorem dX9_standsAt_14 : decode cX9_standsAt 14 = .ok (.iload_n 1, 1) := by decide +kernel
theorem dX9_standsAt_15 : decode cX9_standsAt 15 = .ok (.iload_n 2, 1) := by decide +kernel
theorem dX9_standsAt_16 : decode cX9_standsAt 16 = .ok (.iadd, 1) := by decide +kernel
theorem dX9_standsAt_17 : decode cX9_standsAt 17 = .ok (.iaload, 1) := by decide +kernel
theorem dX9_standsAt_18 : decode cX9_standsAt 18 = .ok (.aload_n 0, 1) := by decide +kernel
theorem dX9_standsAt_19 : decode cX9_standsAt 19 = .ok (.getfield 27, 3) := by decide +kernel
theorem dX9_standsAt_22 : decode cX9_standsAt 22 = .ok (.iload_n 2, 1) := by decide +kernel
theorem dX9_standsAt_23 : decode cX9_standsAt 23 = .ok (.iaload, 1) := by decide +kernel
theorem dX9_standsAt_24 : decode cX9_standsAt 24 = .ok (.if_icmp .eq 5, 3) := by decide +kernel
theorem dX9_standsAt_27 : decode cX9_standsAt 27 = .ok (.iconst 0, 1) := by decide +kernel
theorem dX9_standsAt_28 : decode cX9_standsAt 28 = .ok (.ireturn, 1) := by decide +kernel
theorem dX9_standsAt_29 : decode cX9_standsAt 29 = .ok (.iinc 2 1, 3) := by decide +kernel
theorem dX9_standsAt_32 : decode cX9_standsAt 32 = .ok (.goto (-30), 3) := by decide +kernel
theorem dX9_standsAt_35 : decode cX9_standsAt 35 = .ok (.iconst 1, 1) := by decide +kernel
theorem dX9_standsAt_36 : decode cX9_standsAt 36 = .ok (.ireturn, 1) := by decide +kernel
def K_X9_standsAt_2 (G : xG) (l : Launch) (d : Nat) (P : Int → xMem → Prop) (v1 v2 : Int) (μ : xMem) : Prop := RR G l d 0 0 false mX9_standsAt (qI P) 2 [some (xr G 33), some (xi v1), some (xi v2)] [] LAY μ 0 0
set_option maxRecDepth 20000 in
theorem E_X9_standsAt {G : xG} {l : Launch} {d : Nat} {P : Int → xMem → Prop} {v1 : Int} {μ : xMem} (h : K_X9_standsAt_2 G l (d + 1) P v1 0 μ) : CI G l (d + 1) mX9_standsAt [xr G 33, xi v1] μ P := by
  refine CC.ofRR (ll := [some (xr G 33), some (xi v1), none]) (by decide +kernel) (Nat.le_of_ble_eq_true rfl) rfl (fun h => by cases h) ?_
  refine xr_iconst dX9_standsAt_0 ?_
  refine xr_istore_n' (ll' := [some (xr G 33), some (xi v1), some (xi 0)]) dX9_standsAt_1 (by decide) rfl rfl ?_
  exact h
set_option maxRecDepth 20000 in
theorem B_X9_standsAt_2 {G : xG} {l : Launch} {d : Nat} {P : Int → xMem → Prop} {v1 v2 : Int} {μ : xMem} (h : (iR v2 ∧ iR (μ 33 10) ∧ ((μ 33 10) ≤ v2 → P 1 μ) ∧ (v2 < (μ 33 10) → ((0 ≤ v1 + v2 ∧ v1 + v2 < 80) ∧ ((0 ≤ v2 ∧ v2 < 10) ∧ (iR (μ 36 (v1 + v2)) ∧ iR (μ 39 v2) ∧ ((μ 36 (v1 + v2)) = (μ 39 v2) → K_X9_standsAt_2 G l (d + 1) P v1 (v2 + 1) μ) ∧ ((μ 36 (v1 + v2)) ≠ (μ 39 v2) → P 0 μ))))))) : K_X9_standsAt_2 G l (d + 1) P v1 v2 μ := by
  unfold K_X9_standsAt_2
  refine xr_iload_n dX9_standsAt_2 rfl ?_
  refine xr_aload_n dX9_standsAt_3 rfl ?_
  refine xr_getI' (v := μ 33 10) dX9_standsAt_4 fl_X9_92 L_33 rfl rfl rfl ?_
  obtain ⟨q1, q2, hT3, hF4⟩ := h
  refine xr_icmp_ge (tgt := 35) dX9_standsAt_7 (by decide) q1 q2 (fun c => ?_) (fun c => ?_)
  · have h := hT3 c
    refine xr_iconst dX9_standsAt_35 ?_
    exact xr_zret dX9_standsAt_36 rfl (x_nz (by decide)).1 ⟨rfl, _, rfl, x_01 (by decide), h⟩
  · have h := hF4 (Int.not_le.mp c)
    refine xr_aload_n dX9_standsAt_10 rfl ?_
    refine xr_getR dX9_standsAt_11 fl_X9_18 L_33 rfl ?_
    refine xr_iload_n dX9_standsAt_14 rfl ?_
    refine xr_iload_n dX9_standsAt_15 rfl ?_
    refine xr_iadd dX9_standsAt_16 ?_
    obtain ⟨q5, h⟩ := h
    refine xr_iaload' (v := μ 36 (v1 + v2)) dX9_standsAt_17 L_36 rfl (by decide) q5 rfl ?_
    refine xr_aload_n dX9_standsAt_18 rfl ?_
    refine xr_getR dX9_standsAt_19 fl_X9_27 L_33 rfl ?_
    refine xr_iload_n dX9_standsAt_22 rfl ?_
    obtain ⟨q6, h⟩ := h
    refine xr_iaload' (v := μ 39 v2) dX9_standsAt_23 L_39 rfl (by decide) q6 rfl ?_
    obtain ⟨q7, q8, hT9, hF10⟩ := h
    refine xr_icmp_eq (tgt := 29) dX9_standsAt_24 (by decide) q7 q8 (fun c => ?_) (fun c => ?_)
    · have h := hT9 c
      refine xr_iinc' (ll' := [some (xr G 33), some (xi v1), some (xi (v2 + 1))]) dX9_standsAt_29 rfl (by decide) rfl rfl ?_
      refine xr_goto (tgt := 2) dX9_standsAt_32 (by decide) ?_
      exact h
    · have h := hF10 c
      refine xr_iconst dX9_standsAt_27 ?_
      exact xr_zret dX9_standsAt_28 rfl (x_nz (by decide)).1 ⟨rfl, _, rfl, x_01 (by decide), h⟩
end Blk31_bX9
