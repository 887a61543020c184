/-! blocks of the class's code, printed by program -/
section Blk28_bX6
def K_X6_recall_79 (G : xG) (l : Launch) (d : Nat) (P : Int → xMem → Prop) (v1 v2 v3 v4 v5 : Int) (μ : xMem) : Prop := RR G l d 0 0 false mX6_recall (qI P) 79 [some (xr G 40), some (xi v1), some (xi v2), some (xi v3), some (xi v4), some (xi v5), none] [] LAY μ 0 0
def K_X6_recall_132 (G : xG) (l : Launch) (d : Nat) (P : Int → xMem → Prop) (v1 v6 : Int) (μ : xMem) : Prop := RR G l d 0 0 false mX6_recall (qI P) 132 [some (xr G 40), some (xi v1), none, none, none, none, some (xi v6)] [] LAY μ 0 0
set_option maxRecDepth 20000 in
theorem E_X6_recall {G : xG} {l : Launch} {d : Nat} {P : Int → xMem → Prop} {v1 v2 : Int} {μ : xMem} (h : CI G l d mX0_tellingOf [xr G 19, xi v1, xi v2] μ (fun r1 m2 => CI G l d mX4_knownOn [xr G 7, xi v2] m2 (fun r3 m4 => CI G l d mX4_knownOn [xr G 10, xi v2] m4 (fun r5 m6 => ((0 ≤ v1 ∧ v1 < 16) ∧ (iR (m6 43 v1) ∧ (r1 ≠ (m6 43 v1) → K_X6_recall_79 G l (d + 1) P v1 v2 r1 r3 r5 m6) ∧ (r1 = (m6 43 v1) → (iR (m6 44 v1) ∧ (r3 ≠ (m6 44 v1) → K_X6_recall_79 G l (d + 1) P v1 v2 r1 r3 r5 m6) ∧ (r3 = (m6 44 v1) → (iR (m6 45 v1) ∧ (r5 ≠ (m6 45 v1) → K_X6_recall_79 G l (d + 1) P v1 v2 r1 r3 r5 m6) ∧ (r5 = (m6 45 v1) → ((r1 = (-1) → P 0 m6) ∧ (r1 ≠ (-1) → P 1 m6))))))))))))) : CI G l (d + 1) mX6_recall [xr G 40, xi v1, xi v2] μ P := by
  refine CC.ofRR (ll := [some (xr G 40), some (xi v1), some (xi v2), none, none, none, none]) (by decide +kernel) (Nat.le_of_ble_eq_true rfl) rfl (fun h => by cases h) ?_
  refine xr_aload_n dX6_recall_0 rfl ?_
  refine xr_getR dX6_recall_1 fl_X6_31 L_40 rfl ?_
  refine xr_iload_n dX6_recall_4 rfl ?_
  refine xr_iload_n dX6_recall_5 rfl ?_
  refine xr_cvI (As := [xi v1, xi v2]) dX6_recall_6 mi_X0_tellingOf ml_X6_45 se_X0_tellingOf L_19 rfl rfl rfl (Nat.le_of_ble_eq_true rfl) h (fun r1 m2 hr1 h => ?_)
  refine xr_istore_n' (ll' := [some (xr G 40), some (xi v1), some (xi v2), some (xi r1), none, none, none]) dX6_recall_9 (by decide) rfl rfl ?_
  refine xr_aload_n dX6_recall_10 rfl ?_
  refine xr_getR dX6_recall_11 fl_X6_27 L_40 rfl ?_
  refine xr_getR dX6_recall_14 fl_X6_51 L_3 rfl ?_
  refine xr_iload_n dX6_recall_17 rfl ?_
  refine xr_cvI (As := [xi v2]) dX6_recall_18 mi_X4_knownOn ml_X6_57 se_X4_knownOn L_7 rfl rfl rfl (Nat.le_of_ble_eq_true rfl) h (fun r3 m4 hr3 h => ?_)
  refine xr_istore' (ll' := [some (xr G 40), some (xi v1), some (xi v2), some (xi r1), some (xi r3), none, none]) dX6_recall_21 (by decide) rfl rfl ?_
  refine xr_aload_n dX6_recall_23 rfl ?_
  refine xr_getR dX6_recall_24 fl_X6_27 L_40 rfl ?_
  refine xr_getR dX6_recall_27 fl_X6_63 L_3 rfl ?_
  refine xr_iload_n dX6_recall_30 rfl ?_
  refine xr_cvI (As := [xi v2]) dX6_recall_31 mi_X4_knownOn ml_X6_57 se_X4_knownOn L_10 rfl rfl rfl (Nat.le_of_ble_eq_true rfl) h (fun r5 m6 hr5 h => ?_)
  refine xr_istore' (ll' := [some (xr G 40), some (xi v1), some (xi v2), some (xi r1), some (xi r3), some (xi r5), none]) dX6_recall_34 (by decide) rfl rfl ?_
  refine xr_iload_n dX6_recall_36 rfl ?_
  refine xr_aload_n dX6_recall_37 rfl ?_
  refine xr_getR dX6_recall_38 fl_X6_18 L_40 rfl ?_
  refine xr_iload_n dX6_recall_41 rfl ?_
  obtain ⟨q7, h⟩ := h
  refine xr_iaload' (v := m6 43 v1) dX6_recall_42 L_43 rfl (by decide) q7 rfl ?_
  obtain ⟨q8, hT9, hF10⟩ := h
  refine xr_icmp_ne (tgt := 79) dX6_recall_43 (by decide) hr1 q8 (fun c => ?_) (fun c => ?_)
  · have h := hT9 c
    exact h
  · have h := hF10 c
    refine xr_iload dX6_recall_46 rfl ?_
    refine xr_aload_n dX6_recall_48 rfl ?_
    refine xr_getR dX6_recall_49 fl_X6_21 L_40 rfl ?_
    refine xr_iload_n dX6_recall_52 rfl ?_
    refine xr_iaload' (v := m6 44 v1) dX6_recall_53 L_44 rfl (by decide) q7 rfl ?_
    obtain ⟨q11, hT12, hF13⟩ := h
    refine xr_icmp_ne (tgt := 79) dX6_recall_54 (by decide) hr3 q11 (fun c => ?_) (fun c => ?_)
    · have h := hT12 c
      exact h
    · have h := hF13 c
      refine xr_iload dX6_recall_57 rfl ?_
      refine xr_aload_n dX6_recall_59 rfl ?_
      refine xr_getR dX6_recall_60 fl_X6_24 L_40 rfl ?_
      refine xr_iload_n dX6_recall_63 rfl ?_
      refine xr_iaload' (v := m6 45 v1) dX6_recall_64 L_45 rfl (by decide) q7 rfl ?_
      obtain ⟨q14, hT15, hF16⟩ := h
      refine xr_icmp_ne (tgt := 79) dX6_recall_65 (by decide) hr5 q14 (fun c => ?_) (fun c => ?_)
      · have h := hT15 c
        exact h
      · have h := hF16 c
        refine xr_iload_n dX6_recall_68 rfl ?_
        refine xr_iconst dX6_recall_69 ?_
        obtain ⟨hT17, hF18⟩ := h
        refine xr_icmp_eq (tgt := 77) dX6_recall_70 (by decide) hr1 (by decide) (fun c => ?_) (fun c => ?_)
        · have h := hT17 c
          refine xr_iconst dX6_recall_77 ?_
          exact xr_zret dX6_recall_78 rfl (x_nz (by decide)).1 ⟨rfl, _, rfl, x_01 (by decide), h⟩
        · have h := hF18 c
          refine xr_iconst dX6_recall_73 ?_
          refine xr_goto (tgt := 78) dX6_recall_74 (by decide) ?_
          exact xr_zret dX6_recall_78 rfl (x_nz (by decide)).1 ⟨rfl, _, rfl, x_01 (by decide), h⟩
set_option maxRecDepth 20000 in
theorem B_X6_recall_79 {G : xG} {l : Launch} {d : Nat} {P : Int → xMem → Prop} {v1 v2 v3 v4 v5 : Int} {μ : xMem} (h : ((0 ≤ v1 ∧ v1 < 16) ∧ (iR v3 ∧ (v3 ≠ (-1) → CV G l d mX8_takeClue [xr G 26, xr G 19, xi v3, xi v2] (st2 (st2 (st2 (st2 μ 43 v1 v3) 44 v1 v4) 45 v1 v5) 42 v1 0) (fun m6 => K_X6_recall_132 G l (d + 1) P v1 0 m6)) ∧ (v3 = (-1) → P 0 (st2 (st2 (st2 (st2 μ 43 v1 v3) 44 v1 v4) 45 v1 v5) 42 v1 0))))) : K_X6_recall_79 G l (d + 1) P v1 v2 v3 v4 v5 μ := by
  unfold K_X6_recall_79
  refine xr_aload_n dX6_recall_79 rfl ?_
  refine xr_getR dX6_recall_80 fl_X6_18 L_40 rfl ?_
  refine xr_iload_n dX6_recall_83 rfl ?_
  refine xr_iload_n dX6_recall_84 rfl ?_
  obtain ⟨q1, h⟩ := h
  refine xr_iastore dX6_recall_85 L_43 rfl (by decide) q1 ?_
  refine xr_aload_n dX6_recall_86 rfl ?_
  refine xr_getR dX6_recall_87 fl_X6_21 L_40 rfl ?_
  refine xr_iload_n dX6_recall_90 rfl ?_
  refine xr_iload dX6_recall_91 rfl ?_
  refine xr_iastore dX6_recall_93 L_44 rfl (by decide) q1 ?_
  refine xr_aload_n dX6_recall_94 rfl ?_
  refine xr_getR dX6_recall_95 fl_X6_24 L_40 rfl ?_
  refine xr_iload_n dX6_recall_98 rfl ?_
  refine xr_iload dX6_recall_99 rfl ?_
  refine xr_iastore dX6_recall_101 L_45 rfl (by decide) q1 ?_
  refine xr_aload_n dX6_recall_102 rfl ?_
  refine xr_getR dX6_recall_103 fl_X6_15 L_40 rfl ?_
  refine xr_iload_n dX6_recall_106 rfl ?_
  refine xr_iconst dX6_recall_107 ?_
  refine xr_iastore dX6_recall_108 L_42 rfl (by decide) q1 ?_
  refine xr_iload_n dX6_recall_109 rfl ?_
  refine xr_iconst dX6_recall_110 ?_
  obtain ⟨q2, hT3, hF4⟩ := h
  refine xr_icmp_ne (tgt := 116) dX6_recall_111 (by decide) q2 (by decide) (fun c => ?_) (fun c => ?_)
  · have h := hT3 c
    refine xr_aload_n dX6_recall_116 rfl ?_
    refine xr_getR dX6_recall_117 fl_X6_35 L_40 rfl ?_
    refine xr_aload_n dX6_recall_120 rfl ?_
    refine xr_getR dX6_recall_121 fl_X6_31 L_40 rfl ?_
    refine xr_iload_n dX6_recall_124 rfl ?_
    refine xr_iload_n dX6_recall_125 rfl ?_
    refine xr_cvV (As := [xr G 19, xi v3, xi v2]) dX6_recall_126 mi_X8_takeClue ml_X6_66 se_X8_takeClue L_26 rfl rfl rfl (Nat.le_of_ble_eq_true rfl) h (fun m6 h => ?_)
    refine xr_iconst dX6_recall_129 ?_
    refine xr_istore' (ll' := [some (xr G 40), some (xi v1), some (xi v2), some (xi v3), some (xi v4), some (xi v5), some (xi 0)]) dX6_recall_130 (by decide) rfl rfl ?_
    refine xr_wk (ll' := [some (xr G 40), some (xi v1), none, none, none, none, some (xi 0)]) ⟨rfl, ⟨rfl, ⟨rfl, trivial⟩⟩⟩ ?_
    exact h
  · have h := hF4 c
    refine xr_iconst dX6_recall_114 ?_
    exact xr_zret dX6_recall_115 rfl (x_nz (by decide)).1 ⟨rfl, _, rfl, x_01 (by decide), h⟩
set_option maxRecDepth 20000 in
theorem B_X6_recall_132 {G : xG} {l : Launch} {d : Nat} {P : Int → xMem → Prop} {v1 v6 : Int} {μ : xMem} (h : (iR v6 ∧ iR (μ 4 2) ∧ ((μ 4 2) ≤ v6 → P 1 μ) ∧ (v6 < (μ 4 2) → ((0 ≤ v6 ∧ v6 < 120) ∧ ((0 ≤ v1 ∧ v1 < 16) ∧ (iR (μ 14 v6) ∧ iR (μ 25 v1) ∧ ((μ 14 v6) ≠ (μ 25 v1) → K_X6_recall_132 G l (d + 1) P v1 (v6 + 1) μ) ∧ ((μ 14 v6) = (μ 25 v1) → CI G l d mX8_readBy [xr G 26, xi v6, xi 1, xi 0] μ (fun r11 m12 => ((r11 ≤ 0 → K_X6_recall_132 G l (d + 1) P v1 (v6 + 1) m12) ∧ (0 < r11 → ((0 ≤ (v1 * 120) + (m12 42 v1) ∧ (v1 * 120) + (m12 42 v1) < 1920) ∧ K_X6_recall_132 G l (d + 1) P v1 (v6 + 1) (st2 (st2 m12 41 ((v1 * 120) + (m12 42 v1)) v6) 42 v1 ((m12 42 v1) + 1))))))))))))) : K_X6_recall_132 G l (d + 1) P v1 v6 μ := by
  unfold K_X6_recall_132
  refine xr_iload dX6_recall_132 rfl ?_
  refine xr_aload_n dX6_recall_134 rfl ?_
  refine xr_getR dX6_recall_135 fl_X6_27 L_40 rfl ?_
  refine xr_getR dX6_recall_138 fl_X6_72 L_3 rfl ?_
  refine xr_getI' (v := μ 4 2) dX6_recall_141 fl_X6_75 L_4 rfl rfl rfl ?_
  obtain ⟨q1, q2, hT3, hF4⟩ := h
  refine xr_icmp_ge (tgt := 217) dX6_recall_144 (by decide) q1 q2 (fun c => ?_) (fun c => ?_)
  · have h := hT3 c
    refine xr_iconst dX6_recall_217 ?_
    exact xr_zret dX6_recall_218 rfl (x_nz (by decide)).1 ⟨rfl, _, rfl, x_01 (by decide), h⟩
  · have h := hF4 (Int.not_le.mp c)
    refine xr_aload_n dX6_recall_147 rfl ?_
    refine xr_getR dX6_recall_148 fl_X6_27 L_40 rfl ?_
    refine xr_getR dX6_recall_151 fl_X6_79 L_3 rfl ?_
    refine xr_iload dX6_recall_154 rfl ?_
    obtain ⟨q5, h⟩ := h
    refine xr_iaload' (v := μ 14 v6) dX6_recall_156 L_14 rfl (by decide) q5 rfl ?_
    refine xr_aload_n dX6_recall_157 rfl ?_
    refine xr_getR dX6_recall_158 fl_X6_31 L_40 rfl ?_
    refine xr_getR dX6_recall_161 fl_X6_82 L_19 rfl ?_
    refine xr_iload_n dX6_recall_164 rfl ?_
    obtain ⟨q6, h⟩ := h
    refine xr_iaload' (v := μ 25 v1) dX6_recall_165 L_25 rfl (by decide) q6 rfl ?_
    obtain ⟨q7, q8, hT9, hF10⟩ := h
    refine xr_icmp_ne (tgt := 211) dX6_recall_166 (by decide) q7 q8 (fun c => ?_) (fun c => ?_)
    · have h := hT9 c
      refine xr_iinc' (ll' := [some (xr G 40), some (xi v1), none, none, none, none, some (xi (v6 + 1))]) dX6_recall_211 rfl (by decide) rfl rfl ?_
      refine xr_goto (tgt := 132) dX6_recall_214 (by decide) ?_
      exact h
    · have h := hF10 c
      refine xr_aload_n dX6_recall_169 rfl ?_
      refine xr_getR dX6_recall_170 fl_X6_35 L_40 rfl ?_
      refine xr_iload dX6_recall_173 rfl ?_
      refine xr_iconst dX6_recall_175 ?_
      refine xr_iconst dX6_recall_176 ?_
      refine xr_cvI (As := [xi v6, xi 1, xi 0]) dX6_recall_177 mi_X8_readBy ml_X6_83 se_X8_readBy L_26 rfl rfl rfl (Nat.le_of_ble_eq_true rfl) h (fun r11 m12 hr11 h => ?_)
      obtain ⟨hT13, hF14⟩ := h
      refine xr_if_le (tgt := 211) dX6_recall_180 (by decide) hr11  (fun c => ?_) (fun c => ?_)
      · have h := hT13 c
        refine xr_iinc' (ll' := [some (xr G 40), some (xi v1), none, none, none, none, some (xi (v6 + 1))]) dX6_recall_211 rfl (by decide) rfl rfl ?_
        refine xr_goto (tgt := 132) dX6_recall_214 (by decide) ?_
        exact h
      · have h := hF14 (Int.not_le.mp c)
        refine xr_aload_n dX6_recall_183 rfl ?_
        refine xr_getR dX6_recall_184 fl_X6_9 L_40 rfl ?_
        refine xr_iload_n dX6_recall_187 rfl ?_
        refine xr_bipush dX6_recall_188 (by decide) ?_
        refine xr_imul dX6_recall_190 ?_
        refine xr_aload_n dX6_recall_191 rfl ?_
        refine xr_getR dX6_recall_192 fl_X6_15 L_40 rfl ?_
        refine xr_iload_n dX6_recall_195 rfl ?_
        refine xr_iaload' (v := m12 42 v1) dX6_recall_196 L_42 rfl (by decide) q6 rfl ?_
        refine xr_iadd dX6_recall_197 ?_
        refine xr_iload dX6_recall_198 rfl ?_
        obtain ⟨q15, h⟩ := h
        refine xr_iastore dX6_recall_200 L_41 rfl (by decide) q15 ?_
        refine xr_aload_n dX6_recall_201 rfl ?_
        refine xr_getR dX6_recall_202 fl_X6_15 L_40 rfl ?_
        refine xr_iload_n dX6_recall_205 rfl ?_
        refine xr_dup2 dX6_recall_206 rfl rfl ?_
        refine xr_iaload' (v := m12 42 v1) dX6_recall_207 L_42 rfl (by decide) q6 (by simp [st2, cpy]) ?_
        refine xr_iconst dX6_recall_208 ?_
        refine xr_iadd dX6_recall_209 ?_
        refine xr_iastore dX6_recall_210 L_42 rfl (by decide) q6 ?_
        refine xr_iinc' (ll' := [some (xr G 40), some (xi v1), none, none, none, none, some (xi (v6 + 1))]) dX6_recall_211 rfl (by decide) rfl rfl ?_
        refine xr_goto (tgt := 132) dX6_recall_214 (by decide) ?_
        exact h
def K_X6_recallLights_2 (G : xG) (l : Launch) (d : Nat) (P : xMem → Prop) (v2 v3 : Int) (μ : xMem) : Prop := RR G l d 0 0 false mX6_recallLights (qV P) 2 [some (xr G 40), some (xr G 46), some (xi v2), some (xi v3)] [] LAY μ 0 0
set_option maxRecDepth 20000 in
theorem E_X6_recallLights {G : xG} {l : Launch} {d : Nat} {P : xMem → Prop} {v2 : Int} {μ : xMem} (h : K_X6_recallLights_2 G l (d + 1) P v2 0 μ) : CV G l (d + 1) mX6_recallLights [xr G 40, xr G 46, xi v2] μ P := by
  refine CC.ofRR (ll := [some (xr G 40), some (xr G 46), some (xi v2), none]) (by decide +kernel) (Nat.le_of_ble_eq_true rfl) rfl (fun h => by cases h) ?_
  refine xr_iconst dX6_recallLights_0 ?_
  refine xr_istore_n' (ll' := [some (xr G 40), some (xr G 46), some (xi v2), some (xi 0)]) dX6_recallLights_1 (by decide) rfl rfl ?_
  exact h
set_option maxRecDepth 20000 in
theorem B_X6_recallLights_2 {G : xG} {l : Launch} {d : Nat} {P : xMem → Prop} {v2 v3 : Int} {μ : xMem} (h : (iR v3 ∧ (16 ≤ v3 → P μ) ∧ (v3 < 16 → CI G l d mX2_hasLight [xr G 46, xi v3] μ (fun r4 m5 => ((r4 = 0 → K_X6_recallLights_2 G l (d + 1) P v2 (v3 + 1) m5) ∧ (r4 ≠ 0 → CI G l d mX6_recall [xr G 40, xi v3, xi v2] m5 (fun r8 m9 => K_X6_recallLights_2 G l (d + 1) P v2 (v3 + 1) m9))))))) : K_X6_recallLights_2 G l (d + 1) P v2 v3 μ := by
  unfold K_X6_recallLights_2
  refine xr_iload_n dX6_recallLights_2 rfl ?_
  refine xr_bipush dX6_recallLights_3 (by decide) ?_
  obtain ⟨q1, hT2, hF3⟩ := h
  refine xr_icmp_ge (tgt := 29) dX6_recallLights_5 (by decide) q1 (by decide) (fun c => ?_) (fun c => ?_)
  · have h := hT2 c
    exact xr_ret dX6_recallLights_29 rfl ⟨rfl, rfl, h⟩
  · have h := hF3 (Int.not_le.mp c)
    refine xr_aload_n dX6_recallLights_8 rfl ?_
    refine xr_iload_n dX6_recallLights_9 rfl ?_
    refine xr_cvI (As := [xi v3]) dX6_recallLights_10 mi_X2_hasLight ml_X6_87 se_X2_hasLight L_46 rfl rfl rfl (Nat.le_of_ble_eq_true rfl) h (fun r4 m5 hr4 h => ?_)
    obtain ⟨hT6, hF7⟩ := h
    refine xr_if_eq (tgt := 23) dX6_recallLights_13 (by decide) hr4  (fun c => ?_) (fun c => ?_)
    · have h := hT6 c
      refine xr_iinc' (ll' := [some (xr G 40), some (xr G 46), some (xi v2), some (xi (v3 + 1))]) dX6_recallLights_23 rfl (by decide) rfl rfl ?_
      refine xr_goto (tgt := 2) dX6_recallLights_26 (by decide) ?_
      exact h
    · have h := hF7 c
      refine xr_aload_n dX6_recallLights_16 rfl ?_
      refine xr_iload_n dX6_recallLights_17 rfl ?_
      refine xr_iload_n dX6_recallLights_18 rfl ?_
      refine xr_cvI (As := [xi v3, xi v2]) dX6_recallLights_19 mi_X6_recall ml_X6_93 se_X6_recall L_40 rfl rfl rfl (Nat.le_of_ble_eq_true rfl) h (fun r8 m9 hr8 h => ?_)
      refine xr_pop dX6_recallLights_22 rfl ?_
      refine xr_iinc' (ll' := [some (xr G 40), some (xr G 46), some (xi v2), some (xi (v3 + 1))]) dX6_recallLights_23 rfl (by decide) rfl rfl ?_
      refine xr_goto (tgt := 2) dX6_recallLights_26 (by decide) ?_
      exact h
set_option maxRecDepth 20000 in
theorem E_X6_wordAt {G : xG} {l : Launch} {d : Nat} {P : Int → xMem → Prop} {v1 v2 : Int} {μ : xMem} (h : ((0 ≤ (v1 * 120) + v2 ∧ (v1 * 120) + v2 < 1920) ∧ (iR (μ 41 ((v1 * 120) + v2)) ∧ P (μ 41 ((v1 * 120) + v2)) μ))) : CI G l (d + 1) mX6_wordAt [xr G 40, xi v1, xi v2] μ P := by
  refine CC.ofRR (ll := [some (xr G 40), some (xi v1), some (xi v2)]) (by decide +kernel) (Nat.le_of_ble_eq_true rfl) rfl (fun h => by cases h) ?_
  refine xr_aload_n dX6_wordAt_0 rfl ?_
  refine xr_getR dX6_wordAt_1 fl_X6_9 L_40 rfl ?_
  refine xr_iload_n dX6_wordAt_4 rfl ?_
  refine xr_bipush dX6_wordAt_5 (by decide) ?_
  refine xr_imul dX6_wordAt_7 ?_
  refine xr_iload_n dX6_wordAt_8 rfl ?_
  refine xr_iadd dX6_wordAt_9 ?_
  obtain ⟨q1, h⟩ := h
  refine xr_iaload' (v := μ 41 ((v1 * 120) + v2)) dX6_wordAt_10 L_41 rfl (by decide) q1 rfl ?_
  obtain ⟨q2, h⟩ := h
  exact xr_iret dX6_wordAt_11 rfl ⟨rfl, _, rfl, q2, h⟩
def K_X6_has_2 (G : xG) (l : Launch) (d : Nat) (P : Int → xMem → Prop) (v1 v2 v3 : Int) (μ : xMem) : Prop := RR G l d 0 0 false mX6_has (qI P) 2 [some (xr G 40), some (xi v1), some (xi v2), some (xi v3)] [] LAY μ 0 0
set_option maxRecDepth 20000 in
theorem E_X6_has {G : xG} {l : Launch} {d : Nat} {P : Int → xMem → Prop} {v1 v2 : Int} {μ : xMem} (h : K_X6_has_2 G l (d + 1) P v1 v2 0 μ) : CI G l (d + 1) mX6_has [xr G 40, xi v1, xi v2] μ P := by
  refine CC.ofRR (ll := [some (xr G 40), some (xi v1), some (xi v2), none]) (by decide +kernel) (Nat.le_of_ble_eq_true rfl) rfl (fun h => by cases h) ?_
  refine xr_iconst dX6_has_0 ?_
  refine xr_istore_n' (ll' := [some (xr G 40), some (xi v1), some (xi v2), some (xi 0)]) dX6_has_1 (by decide) rfl rfl ?_
  exact h
set_option maxRecDepth 20000 in
theorem B_X6_has_2 {G : xG} {l : Launch} {d : Nat} {P : Int → xMem → Prop} {v1 v2 v3 : Int} {μ : xMem} (h : ((0 ≤ v1 ∧ v1 < 16) ∧ (iR v3 ∧ iR (μ 42 v1) ∧ ((μ 42 v1) ≤ v3 → P 0 μ) ∧ (v3 < (μ 42 v1) → CI G l d mX6_wordAt [xr G 40, xi v1, xi v3] μ (fun r6 m7 => (iR v2 ∧ (r6 ≠ v2 → K_X6_has_2 G l (d + 1) P v1 v2 (v3 + 1) m7) ∧ (r6 = v2 → P 1 m7))))))) : K_X6_has_2 G l (d + 1) P v1 v2 v3 μ := by
  unfold K_X6_has_2
  refine xr_iload_n dX6_has_2 rfl ?_
  refine xr_aload_n dX6_has_3 rfl ?_
  refine xr_getR dX6_has_4 fl_X6_15 L_40 rfl ?_
  refine xr_iload_n dX6_has_7 rfl ?_
  obtain ⟨q1, h⟩ := h
  refine xr_iaload' (v := μ 42 v1) dX6_has_8 L_42 rfl (by decide) q1 rfl ?_
  obtain ⟨q2, q3, hT4, hF5⟩ := h
  refine xr_icmp_ge (tgt := 30) dX6_has_9 (by decide) q2 q3 (fun c => ?_) (fun c => ?_)
  · have h := hT4 c
    refine xr_iconst dX6_has_30 ?_
    exact xr_zret dX6_has_31 rfl (x_nz (by decide)).1 ⟨rfl, _, rfl, x_01 (by decide), h⟩
  · have h := hF5 (Int.not_le.mp c)
    refine xr_aload_n dX6_has_12 rfl ?_
    refine xr_iload_n dX6_has_13 rfl ?_
    refine xr_iload_n dX6_has_14 rfl ?_
    refine xr_cvI (As := [xi v1, xi v3]) dX6_has_15 mi_X6_wordAt ml_X6_97 se_X6_wordAt L_40 rfl rfl rfl (Nat.le_of_ble_eq_true rfl) h (fun r6 m7 hr6 h => ?_)
    refine xr_iload_n dX6_has_18 rfl ?_
    obtain ⟨q8, hT9, hF10⟩ := h
    refine xr_icmp_ne (tgt := 24) dX6_has_19 (by decide) hr6 q8 (fun c => ?_) (fun c => ?_)
    · have h := hT9 c
      refine xr_iinc' (ll' := [some (xr G 40), some (xi v1), some (xi v2), some (xi (v3 + 1))]) dX6_has_24 rfl (by decide) rfl rfl ?_
      refine xr_goto (tgt := 2) dX6_has_27 (by decide) ?_
      exact h
    · have h := hF10 c
      refine xr_iconst dX6_has_22 ?_
      exact xr_zret dX6_has_23 rfl (x_nz (by decide)).1 ⟨rfl, _, rfl, x_01 (by decide), h⟩
end Blk28_bX6
