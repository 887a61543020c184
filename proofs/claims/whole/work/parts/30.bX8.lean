/-! blocks of the class's code, printed by program -/
section Blk30_bX8
set_option maxRecDepth 20000 in
theorem E_X8_takeClue {G : xG} {l : Launch} {d : Nat} {P : xMem → Prop} {v2 v3 : Int} {μ : xMem} (h : CV G l d mX9_takeClue [xr G 33, xr G 19, xi v2, xi v3] μ (fun m2 => P m2)) : CV G l (d + 1) mX8_takeClue [xr G 26, xr G 19, xi v2, xi v3] μ P := by
  refine CC.ofRR (ll := [some (xr G 26), some (xr G 19), some (xi v2), some (xi v3)]) (by decide +kernel) (Nat.le_of_ble_eq_true rfl) rfl (fun h => by cases h) ?_
  refine xr_aload_n dX8_takeClue_0 rfl ?_
  refine xr_getR dX8_takeClue_1 fl_X8_23 L_26 rfl ?_
  refine xr_aload_n dX8_takeClue_4 rfl ?_
  refine xr_iload_n dX8_takeClue_5 rfl ?_
  refine xr_iload_n dX8_takeClue_6 rfl ?_
  refine xr_cvV (As := [xr G 19, xi v2, xi v3]) dX8_takeClue_7 mi_X9_takeClue ml_X8_27 se_X9_takeClue L_33 rfl rfl rfl (Nat.le_of_ble_eq_true rfl) h (fun m2 h => ?_)
  exact xr_ret dX8_takeClue_10 rfl ⟨rfl, rfl, h⟩
def K_X8_readBy_63 (G : xG) (l : Launch) (d : Nat) (P : Int → xMem → Prop) (v1 v4 v5 v6 : Int) (μ : xMem) : Prop := RR G l d 0 0 false mX8_readBy (qI P) 63 [some (xr G 26), some (xi v1), none, none, some (xi v4), some (xi v5), some (xi v6)] [] LAY μ 0 0
def K_X8_readBy_87 (G : xG) (l : Launch) (d : Nat) (P : Int → xMem → Prop) (v4 v5 v6 : Int) (μ : xMem) : Prop := RR G l d 0 0 false mX8_readBy (qI P) 87 [some (xr G 26), none, none, none, some (xi v4), some (xi v5), some (xi v6)] [] LAY μ 0 0
def K_X8_readBy_114 (G : xG) (l : Launch) (d : Nat) (P : Int → xMem → Prop) (v4 v5 v6 : Int) (μ : xMem) : Prop := RR G l d 0 0 false mX8_readBy (qI P) 114 [some (xr G 26), none, none, none, some (xi v4), some (xi v5), some (xi v6)] [] LAY μ 0 0
def K_X8_readBy_173 (G : xG) (l : Launch) (d : Nat) (P : Int → xMem → Prop) (v4 v6 : Int) (μ : xMem) : Prop := RR G l d 0 0 false mX8_readBy (qI P) 173 [some (xr G 26), none, none, none, some (xi v4), none, some (xi v6)] [] LAY μ 0 0
def K_X8_readBy_215 (G : xG) (l : Launch) (d : Nat) (P : Int → xMem → Prop) (v4 v6 : Int) (μ : xMem) : Prop := RR G l d 0 0 false mX8_readBy (qI P) 215 [some (xr G 26), none, none, none, some (xi v4), none, some (xi v6)] [] LAY μ 0 0
set_option maxRecDepth 20000 in
theorem E_X8_readBy {G : xG} {l : Launch} {d : Nat} {P : Int → xMem → Prop} {v1 v2 v3 : Int} {μ : xMem} (h : CV G l d mX5_restart [xr G 27, xi v2, xi v3] μ (fun m2 => (iR ((m2 33 5) - 1) ∧ (1 ≤ ((m2 33 5) - 1) → CI G l d mX9_meansAnswer [xr G 33, xi 0, xi v1] m2 (fun r6 m7 => CI G l d mX9_meansAnswer [xr G 33, xi ((m2 33 5) - 1), xi v1] m7 (fun r8 m9 => ((r6 ≠ 0 → K_X8_readBy_63 G l (d + 1) P v1 ((m2 33 5) - 1) r6 r8 m9) ∧ (r6 = 0 → ((r8 ≠ 0 → K_X8_readBy_63 G l (d + 1) P v1 ((m2 33 5) - 1) r6 r8 m9) ∧ (r8 = 0 → P 0 m9))))))) ∧ (((m2 33 5) - 1) < 1 → P 0 m2)))) : CI G l (d + 1) mX8_readBy [xr G 26, xi v1, xi v2, xi v3] μ P := by
  refine CC.ofRR (ll := [some (xr G 26), some (xi v1), some (xi v2), some (xi v3), none, none, none]) (by decide +kernel) (Nat.le_of_ble_eq_true rfl) rfl (fun h => by cases h) ?_
  refine xr_aload_n dX8_readBy_0 rfl ?_
  refine xr_getR dX8_readBy_1 fl_X8_12 L_26 rfl ?_
  refine xr_iload_n dX8_readBy_4 rfl ?_
  refine xr_iload_n dX8_readBy_5 rfl ?_
  refine xr_cvV (As := [xi v2, xi v3]) dX8_readBy_6 mi_X5_restart ml_X8_31 se_X5_restart L_27 rfl rfl rfl (Nat.le_of_ble_eq_true rfl) h (fun m2 h => ?_)
  refine xr_aload_n dX8_readBy_9 rfl ?_
  refine xr_getR dX8_readBy_10 fl_X8_23 L_26 rfl ?_
  refine xr_getI' (v := m2 33 5) dX8_readBy_13 fl_X8_35 L_33 rfl rfl rfl ?_
  refine xr_iconst dX8_readBy_16 ?_
  refine xr_isub dX8_readBy_17 ?_
  refine xr_istore' (ll' := [some (xr G 26), some (xi v1), some (xi v2), some (xi v3), some (xi ((m2 33 5) - 1)), none, none]) dX8_readBy_18 (by decide) rfl rfl ?_
  refine xr_iload dX8_readBy_20 rfl ?_
  refine xr_iconst dX8_readBy_22 ?_
  obtain ⟨q3, hT4, hF5⟩ := h
  refine xr_icmp_ge (tgt := 28) dX8_readBy_23 (by decide) q3 (by decide) (fun c => ?_) (fun c => ?_)
  · have h := hT4 c
    refine xr_aload_n dX8_readBy_28 rfl ?_
    refine xr_getR dX8_readBy_29 fl_X8_23 L_26 rfl ?_
    refine xr_iconst dX8_readBy_32 ?_
    refine xr_iload_n dX8_readBy_33 rfl ?_
    refine xr_cvI (As := [xi 0, xi v1]) dX8_readBy_34 mi_X9_meansAnswer ml_X8_39 se_X9_meansAnswer L_33 rfl rfl rfl (Nat.le_of_ble_eq_true rfl) h (fun r6 m7 hr6 h => ?_)
    refine xr_istore' (ll' := [some (xr G 26), some (xi v1), some (xi v2), some (xi v3), some (xi ((m2 33 5) - 1)), some (xi r6), none]) dX8_readBy_37 (by decide) rfl rfl ?_
    refine xr_aload_n dX8_readBy_39 rfl ?_
    refine xr_getR dX8_readBy_40 fl_X8_23 L_26 rfl ?_
    refine xr_iload dX8_readBy_43 rfl ?_
    refine xr_iload_n dX8_readBy_45 rfl ?_
    refine xr_cvI (As := [xi ((m2 33 5) - 1), xi v1]) dX8_readBy_46 mi_X9_meansAnswer ml_X8_39 se_X9_meansAnswer L_33 rfl rfl rfl (Nat.le_of_ble_eq_true rfl) h (fun r8 m9 hr8 h => ?_)
    refine xr_istore' (ll' := [some (xr G 26), some (xi v1), some (xi v2), some (xi v3), some (xi ((m2 33 5) - 1)), some (xi r6), some (xi r8)]) dX8_readBy_49 (by decide) rfl rfl ?_
    refine xr_iload dX8_readBy_51 rfl ?_
    obtain ⟨hT10, hF11⟩ := h
    refine xr_if_ne (tgt := 63) dX8_readBy_53 (by decide) hr6  (fun c => ?_) (fun c => ?_)
    · have h := hT10 c
      refine xr_wk (ll' := [some (xr G 26), some (xi v1), none, none, some (xi ((m2 33 5) - 1)), some (xi r6), some (xi r8)]) ⟨rfl, ⟨rfl, ⟨rfl, ⟨rfl, ⟨rfl, trivial⟩⟩⟩⟩⟩ ?_
      exact h
    · have h := hF11 c
      refine xr_iload dX8_readBy_56 rfl ?_
      obtain ⟨hT12, hF13⟩ := h
      refine xr_if_ne (tgt := 63) dX8_readBy_58 (by decide) hr8  (fun c => ?_) (fun c => ?_)
      · have h := hT12 c
        refine xr_wk (ll' := [some (xr G 26), some (xi v1), none, none, some (xi ((m2 33 5) - 1)), some (xi r6), some (xi r8)]) ⟨rfl, ⟨rfl, ⟨rfl, ⟨rfl, ⟨rfl, trivial⟩⟩⟩⟩⟩ ?_
        exact h
      · have h := hF13 c
        refine xr_iconst dX8_readBy_61 ?_
        exact xr_iret dX8_readBy_62 rfl ⟨rfl, _, rfl, (by decide), h⟩
  · have h := hF5 (Int.not_le.mp c)
    refine xr_iconst dX8_readBy_26 ?_
    exact xr_iret dX8_readBy_27 rfl ⟨rfl, _, rfl, (by decide), h⟩
set_option maxRecDepth 20000 in
theorem B_X8_readBy_63 {G : xG} {l : Launch} {d : Nat} {P : Int → xMem → Prop} {v1 v4 v5 v6 : Int} {μ : xMem} (h : CV G l d mX9_takeAnswer [xr G 33, xi v1] μ (fun m2 => (iR v5 ∧ (v5 = 0 → K_X8_readBy_87 G l (d + 1) P v4 v5 v6 m2) ∧ (v5 ≠ 0 → (iR v6 ∧ (v6 = 0 → K_X8_readBy_87 G l (d + 1) P v4 v5 v6 m2) ∧ (v6 ≠ 0 → CV G l d mX8_addTwo [xr G 26, xi v4] m2 (fun m10 => K_X8_readBy_87 G l (d + 1) P v4 v5 v6 m10))))))) : K_X8_readBy_63 G l (d + 1) P v1 v4 v5 v6 μ := by
  unfold K_X8_readBy_63
  refine xr_aload_n dX8_readBy_63 rfl ?_
  refine xr_getR dX8_readBy_64 fl_X8_23 L_26 rfl ?_
  refine xr_iload_n dX8_readBy_67 rfl ?_
  refine xr_cvV (As := [xi v1]) dX8_readBy_68 mi_X9_takeAnswer ml_X8_43 se_X9_takeAnswer L_33 rfl rfl rfl (Nat.le_of_ble_eq_true rfl) h (fun m2 h => ?_)
  refine xr_iload dX8_readBy_71 rfl ?_
  obtain ⟨q3, hT4, hF5⟩ := h
  refine xr_if_eq (tgt := 87) dX8_readBy_73 (by decide) q3  (fun c => ?_) (fun c => ?_)
  · have h := hT4 c
    refine xr_wk (ll' := [some (xr G 26), none, none, none, some (xi v4), some (xi v5), some (xi v6)]) ⟨rfl, ⟨rfl, ⟨rfl, ⟨rfl, trivial⟩⟩⟩⟩ ?_
    exact h
  · have h := hF5 c
    refine xr_iload dX8_readBy_76 rfl ?_
    obtain ⟨q6, hT7, hF8⟩ := h
    refine xr_if_eq (tgt := 87) dX8_readBy_78 (by decide) q6  (fun c => ?_) (fun c => ?_)
    · have h := hT7 c
      refine xr_wk (ll' := [some (xr G 26), none, none, none, some (xi v4), some (xi v5), some (xi v6)]) ⟨rfl, ⟨rfl, ⟨rfl, ⟨rfl, trivial⟩⟩⟩⟩ ?_
      exact h
    · have h := hF8 c
      refine xr_aload_n dX8_readBy_81 rfl ?_
      refine xr_iload dX8_readBy_82 rfl ?_
      refine xr_cvV (As := [xi v4]) dX8_readBy_84 mi_X8_addTwo ml_X8_47 se_X8_addTwo L_26 rfl rfl rfl (Nat.le_of_ble_eq_true rfl) h (fun m10 h => ?_)
      refine xr_wk (ll' := [some (xr G 26), none, none, none, some (xi v4), some (xi v5), some (xi v6)]) ⟨rfl, ⟨rfl, ⟨rfl, ⟨rfl, trivial⟩⟩⟩⟩ ?_
      exact h
set_option maxRecDepth 20000 in
theorem B_X8_readBy_87 {G : xG} {l : Launch} {d : Nat} {P : Int → xMem → Prop} {v4 v5 v6 : Int} {μ : xMem} (h : (iR v5 ∧ (v5 = 0 → K_X8_readBy_114 G l (d + 1) P v4 v5 v6 μ) ∧ (v5 ≠ 0 → CI G l d mX8_rowOf [xr G 26, xi 0, xi 1, xi v4, xi 0, xi (μ 33 8), xi 0] μ (fun r4 m5 => CV G l d mX8_addFront [xr G 26, xi (-1), xi r4] m5 (fun m7 => K_X8_readBy_114 G l (d + 1) P v4 v5 v6 m7))))) : K_X8_readBy_87 G l (d + 1) P v4 v5 v6 μ := by
  unfold K_X8_readBy_87
  refine xr_iload dX8_readBy_87 rfl ?_
  obtain ⟨q1, hT2, hF3⟩ := h
  refine xr_if_eq (tgt := 114) dX8_readBy_89 (by decide) q1  (fun c => ?_) (fun c => ?_)
  · have h := hT2 c
    exact h
  · have h := hF3 c
    refine xr_aload_n dX8_readBy_92 rfl ?_
    refine xr_iconst dX8_readBy_93 ?_
    refine xr_aload_n dX8_readBy_94 rfl ?_
    refine xr_iconst dX8_readBy_95 ?_
    refine xr_iconst dX8_readBy_96 ?_
    refine xr_iload dX8_readBy_97 rfl ?_
    refine xr_iconst dX8_readBy_99 ?_
    refine xr_aload_n dX8_readBy_100 rfl ?_
    refine xr_getR dX8_readBy_101 fl_X8_23 L_26 rfl ?_
    refine xr_getI' (v := μ 33 8) dX8_readBy_104 fl_X8_50 L_33 rfl rfl rfl ?_
    refine xr_iconst dX8_readBy_107 ?_
    refine xr_cvI (As := [xi 0, xi 1, xi v4, xi 0, xi (μ 33 8), xi 0]) dX8_readBy_108 mi_X8_rowOf ml_X8_53 se_X8_rowOf L_26 rfl rfl rfl (Nat.le_of_ble_eq_true rfl) h (fun r4 m5 hr4 h => ?_)
    refine xr_cvV (As := [xi (-1), xi r4]) dX8_readBy_111 mi_X8_addFront ml_X8_57 se_X8_addFront L_26 rfl rfl rfl (Nat.le_of_ble_eq_true rfl) h (fun m7 h => ?_)
    exact h
set_option maxRecDepth 20000 in
theorem B_X8_readBy_114 {G : xG} {l : Launch} {d : Nat} {P : Int → xMem → Prop} {v4 v5 v6 : Int} {μ : xMem} (h : (iR v5 ∧ (v5 = 0 → K_X8_readBy_173 G l (d + 1) P v4 v6 μ) ∧ (v5 ≠ 0 → (iR v4 ∧ (v4 < 2 → K_X8_readBy_173 G l (d + 1) P v4 v6 μ) ∧ (2 ≤ v4 → CI G l d mX9_isSign [xr G 33, xi 1, xi 9] μ (fun r7 m8 => ((r7 = 0 → K_X8_readBy_173 G l (d + 1) P v4 v6 m8) ∧ (r7 ≠ 0 → CI G l d mX5_hasEnough [xr G 27, xi 7920] m8 (fun r11 m12 => ((r11 ≠ 0 → K_X8_readBy_173 G l (d + 1) P v4 v6 m12) ∧ (r11 = 0 → CI G l d mX8_rowOf [xr G 26, xi 0, xi 2, xi v4, xi 0, xi (m12 33 8), xi 0] m12 (fun r15 m16 => CV G l d mX8_addFront [xr G 26, xi 1, xi r15] m16 (fun m18 => K_X8_readBy_173 G l (d + 1) P v4 v6 m18))))))))))))) : K_X8_readBy_114 G l (d + 1) P v4 v5 v6 μ := by
  unfold K_X8_readBy_114
  refine xr_iload dX8_readBy_114 rfl ?_
  obtain ⟨q1, hT2, hF3⟩ := h
  refine xr_if_eq (tgt := 173) dX8_readBy_116 (by decide) q1  (fun c => ?_) (fun c => ?_)
  · have h := hT2 c
    refine xr_wk (ll' := [some (xr G 26), none, none, none, some (xi v4), none, some (xi v6)]) ⟨rfl, ⟨rfl, ⟨rfl, trivial⟩⟩⟩ ?_
    exact h
  · have h := hF3 c
    refine xr_iload dX8_readBy_119 rfl ?_
    refine xr_iconst dX8_readBy_121 ?_
    obtain ⟨q4, hT5, hF6⟩ := h
    refine xr_icmp_lt (tgt := 173) dX8_readBy_122 (by decide) q4 (by decide) (fun c => ?_) (fun c => ?_)
    · have h := hT5 c
      refine xr_wk (ll' := [some (xr G 26), none, none, none, some (xi v4), none, some (xi v6)]) ⟨rfl, ⟨rfl, ⟨rfl, trivial⟩⟩⟩ ?_
      exact h
    · have h := hF6 (Int.not_lt.mp c)
      refine xr_aload_n dX8_readBy_125 rfl ?_
      refine xr_getR dX8_readBy_126 fl_X8_23 L_26 rfl ?_
      refine xr_iconst dX8_readBy_129 ?_
      refine xr_bipush dX8_readBy_130 (by decide) ?_
      refine xr_cvI (As := [xi 1, xi 9]) dX8_readBy_132 mi_X9_isSign ml_X8_61 se_X9_isSign L_33 rfl rfl rfl (Nat.le_of_ble_eq_true rfl) h (fun r7 m8 hr7 h => ?_)
      obtain ⟨hT9, hF10⟩ := h
      refine xr_if_eq (tgt := 173) dX8_readBy_135 (by decide) hr7  (fun c => ?_) (fun c => ?_)
      · have h := hT9 c
        refine xr_wk (ll' := [some (xr G 26), none, none, none, some (xi v4), none, some (xi v6)]) ⟨rfl, ⟨rfl, ⟨rfl, trivial⟩⟩⟩ ?_
        exact h
      · have h := hF10 c
        refine xr_aload_n dX8_readBy_138 rfl ?_
        refine xr_getR dX8_readBy_139 fl_X8_12 L_26 rfl ?_
        refine xr_sipush dX8_readBy_142 (by decide) ?_
        refine xr_cvI (As := [xi 7920]) dX8_readBy_145 mi_X5_hasEnough ml_X8_64 se_X5_hasEnough L_27 rfl rfl rfl (Nat.le_of_ble_eq_true rfl) h (fun r11 m12 hr11 h => ?_)
        obtain ⟨hT13, hF14⟩ := h
        refine xr_if_ne (tgt := 173) dX8_readBy_148 (by decide) hr11  (fun c => ?_) (fun c => ?_)
        · have h := hT13 c
          refine xr_wk (ll' := [some (xr G 26), none, none, none, some (xi v4), none, some (xi v6)]) ⟨rfl, ⟨rfl, ⟨rfl, trivial⟩⟩⟩ ?_
          exact h
        · have h := hF14 c
          refine xr_aload_n dX8_readBy_151 rfl ?_
          refine xr_iconst dX8_readBy_152 ?_
          refine xr_aload_n dX8_readBy_153 rfl ?_
          refine xr_iconst dX8_readBy_154 ?_
          refine xr_iconst dX8_readBy_155 ?_
          refine xr_iload dX8_readBy_156 rfl ?_
          refine xr_iconst dX8_readBy_158 ?_
          refine xr_aload_n dX8_readBy_159 rfl ?_
          refine xr_getR dX8_readBy_160 fl_X8_23 L_26 rfl ?_
          refine xr_getI' (v := m12 33 8) dX8_readBy_163 fl_X8_50 L_33 rfl rfl rfl ?_
          refine xr_iconst dX8_readBy_166 ?_
          refine xr_cvI (As := [xi 0, xi 2, xi v4, xi 0, xi (m12 33 8), xi 0]) dX8_readBy_167 mi_X8_rowOf ml_X8_53 se_X8_rowOf L_26 rfl rfl rfl (Nat.le_of_ble_eq_true rfl) h (fun r15 m16 hr15 h => ?_)
          refine xr_cvV (As := [xi 1, xi r15]) dX8_readBy_170 mi_X8_addFront ml_X8_57 se_X8_addFront L_26 rfl rfl rfl (Nat.le_of_ble_eq_true rfl) h (fun m18 h => ?_)
          refine xr_wk (ll' := [some (xr G 26), none, none, none, some (xi v4), none, some (xi v6)]) ⟨rfl, ⟨rfl, ⟨rfl, trivial⟩⟩⟩ ?_
          exact h
set_option maxRecDepth 20000 in
theorem B_X8_readBy_173 {G : xG} {l : Launch} {d : Nat} {P : Int → xMem → Prop} {v4 v6 : Int} {μ : xMem} (h : (iR v6 ∧ (v6 = 0 → K_X8_readBy_215 G l (d + 1) P v4 v6 μ) ∧ (v6 ≠ 0 → CI G l d mX5_hasEnough [xr G 27, xi 7920] μ (fun r4 m5 => ((r4 ≠ 0 → K_X8_readBy_215 G l (d + 1) P v4 v6 m5) ∧ (r4 = 0 → CI G l d mX8_rowOf [xr G 26, xi 0, xi 0, xi (v4 - 1), xi 0, xi (m5 33 8), xi 0] m5 (fun r8 m9 => CV G l d mX8_addBack [xr G 26, xi (-1), xi r8] m9 (fun m11 => K_X8_readBy_215 G l (d + 1) P v4 v6 m11)))))))) : K_X8_readBy_173 G l (d + 1) P v4 v6 μ := by
  unfold K_X8_readBy_173
  refine xr_iload dX8_readBy_173 rfl ?_
  obtain ⟨q1, hT2, hF3⟩ := h
  refine xr_if_eq (tgt := 215) dX8_readBy_175 (by decide) q1  (fun c => ?_) (fun c => ?_)
  · have h := hT2 c
    exact h
  · have h := hF3 c
    refine xr_aload_n dX8_readBy_178 rfl ?_
    refine xr_getR dX8_readBy_179 fl_X8_12 L_26 rfl ?_
    refine xr_sipush dX8_readBy_182 (by decide) ?_
    refine xr_cvI (As := [xi 7920]) dX8_readBy_185 mi_X5_hasEnough ml_X8_64 se_X5_hasEnough L_27 rfl rfl rfl (Nat.le_of_ble_eq_true rfl) h (fun r4 m5 hr4 h => ?_)
    obtain ⟨hT6, hF7⟩ := h
    refine xr_if_ne (tgt := 215) dX8_readBy_188 (by decide) hr4  (fun c => ?_) (fun c => ?_)
    · have h := hT6 c
      exact h
    · have h := hF7 c
      refine xr_aload_n dX8_readBy_191 rfl ?_
      refine xr_iconst dX8_readBy_192 ?_
      refine xr_aload_n dX8_readBy_193 rfl ?_
      refine xr_iconst dX8_readBy_194 ?_
      refine xr_iconst dX8_readBy_195 ?_
      refine xr_iload dX8_readBy_196 rfl ?_
      refine xr_iconst dX8_readBy_198 ?_
      refine xr_isub dX8_readBy_199 ?_
      refine xr_iconst dX8_readBy_200 ?_
      refine xr_aload_n dX8_readBy_201 rfl ?_
      refine xr_getR dX8_readBy_202 fl_X8_23 L_26 rfl ?_
      refine xr_getI' (v := m5 33 8) dX8_readBy_205 fl_X8_50 L_33 rfl rfl rfl ?_
      refine xr_iconst dX8_readBy_208 ?_
      refine xr_cvI (As := [xi 0, xi 0, xi (v4 - 1), xi 0, xi (m5 33 8), xi 0]) dX8_readBy_209 mi_X8_rowOf ml_X8_53 se_X8_rowOf L_26 rfl rfl rfl (Nat.le_of_ble_eq_true rfl) h (fun r8 m9 hr8 h => ?_)
      refine xr_cvV (As := [xi (-1), xi r8]) dX8_readBy_212 mi_X8_addBack ml_X8_68 se_X8_addBack L_26 rfl rfl rfl (Nat.le_of_ble_eq_true rfl) h (fun m11 h => ?_)
      exact h
set_option maxRecDepth 20000 in
theorem B_X8_readBy_215 {G : xG} {l : Launch} {d : Nat} {P : Int → xMem → Prop} {v4 v6 : Int} {μ : xMem} (h : (iR v6 ∧ (v6 = 0 → (iR (μ 29 7920) ∧ P (μ 29 7920) μ)) ∧ (v6 ≠ 0 → (iR v4 ∧ (v4 < 2 → (iR (μ 29 7920) ∧ P (μ 29 7920) μ)) ∧ (2 ≤ v4 → CI G l d mX9_isSign [xr G 33, xi (v4 - 1), xi 9] μ (fun r9 m10 => ((r9 = 0 → (iR (m10 29 7920) ∧ P (m10 29 7920) m10)) ∧ (r9 ≠ 0 → CI G l d mX5_hasEnough [xr G 27, xi 7920] m10 (fun r14 m15 => ((r14 ≠ 0 → (iR (m15 29 7920) ∧ P (m15 29 7920) m15)) ∧ (r14 = 0 → CI G l d mX8_rowOf [xr G 26, xi 0, xi 0, xi (v4 - 2), xi 0, xi (m15 33 8), xi 0] m15 (fun r19 m20 => CV G l d mX8_addBack [xr G 26, xi (v4 - 1), xi r19] m20 (fun m22 => (iR (m22 29 7920) ∧ P (m22 29 7920) m22)))))))))))))) : K_X8_readBy_215 G l (d + 1) P v4 v6 μ := by
  unfold K_X8_readBy_215
  refine xr_iload dX8_readBy_215 rfl ?_
  obtain ⟨q1, hT2, hF3⟩ := h
  refine xr_if_eq (tgt := 282) dX8_readBy_217 (by decide) q1  (fun c => ?_) (fun c => ?_)
  · have h := hT2 c
    refine xr_aload_n dX8_readBy_282 rfl ?_
    refine xr_getR dX8_readBy_283 fl_X8_12 L_26 rfl ?_
    refine xr_getR dX8_readBy_286 fl_X8_71 L_27 rfl ?_
    refine xr_sipush dX8_readBy_289 (by decide) ?_
    refine xr_iaload' (v := μ 29 7920) dX8_readBy_292 L_29 rfl (by decide) (by decide) rfl ?_
    obtain ⟨q4, h⟩ := h
    exact xr_iret dX8_readBy_293 rfl ⟨rfl, _, rfl, q4, h⟩
  · have h := hF3 c
    refine xr_iload dX8_readBy_220 rfl ?_
    refine xr_iconst dX8_readBy_222 ?_
    obtain ⟨q5, hT6, hF7⟩ := h
    refine xr_icmp_lt (tgt := 282) dX8_readBy_223 (by decide) q5 (by decide) (fun c => ?_) (fun c => ?_)
    · have h := hT6 c
      refine xr_aload_n dX8_readBy_282 rfl ?_
      refine xr_getR dX8_readBy_283 fl_X8_12 L_26 rfl ?_
      refine xr_getR dX8_readBy_286 fl_X8_71 L_27 rfl ?_
      refine xr_sipush dX8_readBy_289 (by decide) ?_
      refine xr_iaload' (v := μ 29 7920) dX8_readBy_292 L_29 rfl (by decide) (by decide) rfl ?_
      obtain ⟨q8, h⟩ := h
      exact xr_iret dX8_readBy_293 rfl ⟨rfl, _, rfl, q8, h⟩
    · have h := hF7 (Int.not_lt.mp c)
      refine xr_aload_n dX8_readBy_226 rfl ?_
      refine xr_getR dX8_readBy_227 fl_X8_23 L_26 rfl ?_
      refine xr_iload dX8_readBy_230 rfl ?_
      refine xr_iconst dX8_readBy_232 ?_
      refine xr_isub dX8_readBy_233 ?_
      refine xr_bipush dX8_readBy_234 (by decide) ?_
      refine xr_cvI (As := [xi (v4 - 1), xi 9]) dX8_readBy_236 mi_X9_isSign ml_X8_61 se_X9_isSign L_33 rfl rfl rfl (Nat.le_of_ble_eq_true rfl) h (fun r9 m10 hr9 h => ?_)
      obtain ⟨hT11, hF12⟩ := h
      refine xr_if_eq (tgt := 282) dX8_readBy_239 (by decide) hr9  (fun c => ?_) (fun c => ?_)
      · have h := hT11 c
        refine xr_aload_n dX8_readBy_282 rfl ?_
        refine xr_getR dX8_readBy_283 fl_X8_12 L_26 rfl ?_
        refine xr_getR dX8_readBy_286 fl_X8_71 L_27 rfl ?_
        refine xr_sipush dX8_readBy_289 (by decide) ?_
        refine xr_iaload' (v := m10 29 7920) dX8_readBy_292 L_29 rfl (by decide) (by decide) rfl ?_
        obtain ⟨q13, h⟩ := h
        exact xr_iret dX8_readBy_293 rfl ⟨rfl, _, rfl, q13, h⟩
      · have h := hF12 c
        refine xr_aload_n dX8_readBy_242 rfl ?_
        refine xr_getR dX8_readBy_243 fl_X8_12 L_26 rfl ?_
        refine xr_sipush dX8_readBy_246 (by decide) ?_
        refine xr_cvI (As := [xi 7920]) dX8_readBy_249 mi_X5_hasEnough ml_X8_64 se_X5_hasEnough L_27 rfl rfl rfl (Nat.le_of_ble_eq_true rfl) h (fun r14 m15 hr14 h => ?_)
        obtain ⟨hT16, hF17⟩ := h
        refine xr_if_ne (tgt := 282) dX8_readBy_252 (by decide) hr14  (fun c => ?_) (fun c => ?_)
        · have h := hT16 c
          refine xr_aload_n dX8_readBy_282 rfl ?_
          refine xr_getR dX8_readBy_283 fl_X8_12 L_26 rfl ?_
          refine xr_getR dX8_readBy_286 fl_X8_71 L_27 rfl ?_
          refine xr_sipush dX8_readBy_289 (by decide) ?_
          refine xr_iaload' (v := m15 29 7920) dX8_readBy_292 L_29 rfl (by decide) (by decide) rfl ?_
          obtain ⟨q18, h⟩ := h
          exact xr_iret dX8_readBy_293 rfl ⟨rfl, _, rfl, q18, h⟩
        · have h := hF17 c
          refine xr_aload_n dX8_readBy_255 rfl ?_
          refine xr_iload dX8_readBy_256 rfl ?_
          refine xr_iconst dX8_readBy_258 ?_
          refine xr_isub dX8_readBy_259 ?_
          refine xr_aload_n dX8_readBy_260 rfl ?_
          refine xr_iconst dX8_readBy_261 ?_
          refine xr_iconst dX8_readBy_262 ?_
          refine xr_iload dX8_readBy_263 rfl ?_
          refine xr_iconst dX8_readBy_265 ?_
          refine xr_isub dX8_readBy_266 ?_
          refine xr_iconst dX8_readBy_267 ?_
          refine xr_aload_n dX8_readBy_268 rfl ?_
          refine xr_getR dX8_readBy_269 fl_X8_23 L_26 rfl ?_
          refine xr_getI' (v := m15 33 8) dX8_readBy_272 fl_X8_50 L_33 rfl rfl rfl ?_
          refine xr_iconst dX8_readBy_275 ?_
          refine xr_cvI (As := [xi 0, xi 0, xi (v4 - 2), xi 0, xi (m15 33 8), xi 0]) dX8_readBy_276 mi_X8_rowOf ml_X8_53 se_X8_rowOf L_26 rfl rfl rfl (Nat.le_of_ble_eq_true rfl) h (fun r19 m20 hr19 h => ?_)
          refine xr_cvV (As := [xi (v4 - 1), xi r19]) dX8_readBy_279 mi_X8_addBack ml_X8_68 se_X8_addBack L_26 rfl rfl rfl (Nat.le_of_ble_eq_true rfl) h (fun m22 h => ?_)
          refine xr_aload_n dX8_readBy_282 rfl ?_
          refine xr_getR dX8_readBy_283 fl_X8_12 L_26 rfl ?_
          refine xr_getR dX8_readBy_286 fl_X8_71 L_27 rfl ?_
          refine xr_sipush dX8_readBy_289 (by decide) ?_
          refine xr_iaload' (v := m22 29 7920) dX8_readBy_292 L_29 rfl (by decide) (by decide) rfl ?_
          obtain ⟨q23, h⟩ := h
          exact xr_iret dX8_readBy_293 rfl ⟨rfl, _, rfl, q23, h⟩
set_option maxRecDepth 20000 in
theorem E_X8_leastCost {G : xG} {l : Launch} {d : Nat} {P : Int → xMem → Prop} {μ : xMem} (h : (iR (μ 30 7920) ∧ P (μ 30 7920) μ)) : CI G l (d + 1) mX8_leastCost [xr G 26] μ P := by
  refine CC.ofRR (ll := [some (xr G 26)]) (by decide +kernel) (Nat.le_of_ble_eq_true rfl) rfl (fun h => by cases h) ?_
  refine xr_aload_n dX8_leastCost_0 rfl ?_
  refine xr_getR dX8_leastCost_1 fl_X8_12 L_26 rfl ?_
  refine xr_getR dX8_leastCost_4 fl_X8_75 L_27 rfl ?_
  refine xr_sipush dX8_leastCost_7 (by decide) ?_
  refine xr_iaload' (v := μ 30 7920) dX8_leastCost_10 L_30 rfl (by decide) (by decide) rfl ?_
  obtain ⟨q1, h⟩ := h
  exact xr_iret dX8_leastCost_11 rfl ⟨rfl, _, rfl, q1, h⟩
def K_X8_addTwo_24 (G : xG) (l : Launch) (d : Nat) (P : xMem → Prop) (v1 : Int) (μ : xMem) : Prop := RR G l d 0 0 false mX8_addTwo (qV P) 24 [some (xr G 26), some (xi v1), none] [] LAY μ 0 0
def K_X8_addTwo_65 (G : xG) (l : Launch) (d : Nat) (P : xMem → Prop) (v1 v2 s1 : Int) (μ : xMem) : Prop := RR G l d 0 0 false mX8_addTwo (qV P) 65 [some (xr G 26), some (xi v1), some (xi v2)] [xi s1, xr G 27] LAY μ 0 0
set_option maxRecDepth 20000 in
theorem E_X8_addTwo {G : xG} {l : Launch} {d : Nat} {P : xMem → Prop} {v1 : Int} {μ : xMem} (h : (iR v1 ∧ (2 < v1 → P μ) ∧ (v1 ≤ 2 → ((v1 ≠ 2 → K_X8_addTwo_24 G l (d + 1) P v1 μ) ∧ (v1 = 2 → CI G l d mX9_isSign [xr G 33, xi 1, xi 9] μ (fun r6 m7 => ((r6 ≠ 0 → K_X8_addTwo_24 G l (d + 1) P v1 m7) ∧ (r6 = 0 → P m7)))))))) : CV G l (d + 1) mX8_addTwo [xr G 26, xi v1] μ P := by
  refine CC.ofRR (ll := [some (xr G 26), some (xi v1), none]) (by decide +kernel) (Nat.le_of_ble_eq_true rfl) rfl (fun h => by cases h) ?_
  refine xr_iload_n dX8_addTwo_0 rfl ?_
  refine xr_iconst dX8_addTwo_1 ?_
  obtain ⟨q1, hT2, hF3⟩ := h
  refine xr_icmp_gt (tgt := 23) dX8_addTwo_2 (by decide) q1 (by decide) (fun c => ?_) (fun c => ?_)
  · have h := hT2 c
    exact xr_ret dX8_addTwo_23 rfl ⟨rfl, rfl, h⟩
  · have h := hF3 (Int.not_lt.mp c)
    refine xr_iload_n dX8_addTwo_5 rfl ?_
    refine xr_iconst dX8_addTwo_6 ?_
    obtain ⟨hT4, hF5⟩ := h
    refine xr_icmp_ne (tgt := 24) dX8_addTwo_7 (by decide) q1 (by decide) (fun c => ?_) (fun c => ?_)
    · have h := hT4 c
      exact h
    · have h := hF5 c
      refine xr_aload_n dX8_addTwo_10 rfl ?_
      refine xr_getR dX8_addTwo_11 fl_X8_23 L_26 rfl ?_
      refine xr_iconst dX8_addTwo_14 ?_
      refine xr_bipush dX8_addTwo_15 (by decide) ?_
      refine xr_cvI (As := [xi 1, xi 9]) dX8_addTwo_17 mi_X9_isSign ml_X8_61 se_X9_isSign L_33 rfl rfl rfl (Nat.le_of_ble_eq_true rfl) h (fun r6 m7 hr6 h => ?_)
      obtain ⟨hT8, hF9⟩ := h
      refine xr_if_ne (tgt := 24) dX8_addTwo_20 (by decide) hr6  (fun c => ?_) (fun c => ?_)
      · have h := hT8 c
        exact h
      · have h := hF9 c
        exact xr_ret dX8_addTwo_23 rfl ⟨rfl, rfl, h⟩
set_option maxRecDepth 20000 in
theorem B_X8_addTwo_24 {G : xG} {l : Launch} {d : Nat} {P : xMem → Prop} {v1 : Int} {μ : xMem} (h : CI G l d mX5_offer [xr G 27, xi 7920, xi 1, xi 2] μ (fun r1 m2 => ((r1 = 0 → P m2) ∧ (r1 ≠ 0 → CV G l d mX5_putWord [xr G 27, xi 29, xi 0] m2 (fun m6 => (iR v1 ∧ (v1 ≠ 2 → K_X8_addTwo_65 G l (d + 1) P v1 2 (-1) m6) ∧ (v1 = 2 → K_X8_addTwo_65 G l (d + 1) P v1 2 1 m6))))))) : K_X8_addTwo_24 G l (d + 1) P v1 μ := by
  unfold K_X8_addTwo_24
  refine xr_iconst dX8_addTwo_24 ?_
  refine xr_istore_n' (ll' := [some (xr G 26), some (xi v1), some (xi 2)]) dX8_addTwo_25 (by decide) rfl rfl ?_
  refine xr_aload_n dX8_addTwo_26 rfl ?_
  refine xr_getR dX8_addTwo_27 fl_X8_12 L_26 rfl ?_
  refine xr_sipush dX8_addTwo_30 (by decide) ?_
  refine xr_iconst dX8_addTwo_33 ?_
  refine xr_iload_n dX8_addTwo_34 rfl ?_
  refine xr_cvI (As := [xi 7920, xi 1, xi 2]) dX8_addTwo_35 mi_X5_offer ml_X8_90 se_X5_offer L_27 rfl rfl rfl (Nat.le_of_ble_eq_true rfl) h (fun r1 m2 hr1 h => ?_)
  obtain ⟨hT3, hF4⟩ := h
  refine xr_if_eq (tgt := 98) dX8_addTwo_38 (by decide) hr1  (fun c => ?_) (fun c => ?_)
  · have h := hT3 c
    exact xr_ret dX8_addTwo_98 rfl ⟨rfl, rfl, h⟩
  · have h := hF4 c
    refine xr_aload_n dX8_addTwo_41 rfl ?_
    refine xr_getR dX8_addTwo_42 fl_X8_12 L_26 rfl ?_
    refine xr_bipush dX8_addTwo_45 (by decide) ?_
    refine xr_iconst dX8_addTwo_47 ?_
    refine xr_cvV (As := [xi 29, xi 0]) dX8_addTwo_48 mi_X5_putWord ml_X8_94 se_X5_putWord L_27 rfl rfl rfl (Nat.le_of_ble_eq_true rfl) h (fun m6 h => ?_)
    refine xr_aload_n dX8_addTwo_51 rfl ?_
    refine xr_getR dX8_addTwo_52 fl_X8_12 L_26 rfl ?_
    refine xr_iload_n dX8_addTwo_55 rfl ?_
    refine xr_iconst dX8_addTwo_56 ?_
    obtain ⟨q7, hT8, hF9⟩ := h
    refine xr_icmp_ne (tgt := 64) dX8_addTwo_57 (by decide) q7 (by decide) (fun c => ?_) (fun c => ?_)
    · have h := hT8 c
      refine xr_iconst dX8_addTwo_64 ?_
      exact h
    · have h := hF9 c
      refine xr_iconst dX8_addTwo_60 ?_
      refine xr_goto (tgt := 65) dX8_addTwo_61 (by decide) ?_
      exact h
set_option maxRecDepth 20000 in
theorem B_X8_addTwo_65 {G : xG} {l : Launch} {d : Nat} {P : xMem → Prop} {v1 v2 s1 : Int} {μ : xMem} (h : CV G l d mX5_putLink [xr G 27, xi s1] μ (fun m2 => CV G l d mX5_put [xr G 27, xi 11] m2 (fun m4 => CV G l d mX5_putWord [xr G 27, xi 29, xi v1] m4 (fun m6 => CV G l d mX5_keep [xr G 27, xi 7920, xi v2] m6 (fun m8 => P m8))))) : K_X8_addTwo_65 G l (d + 1) P v1 v2 s1 μ := by
  unfold K_X8_addTwo_65
  refine xr_cvV (As := [xi s1]) dX8_addTwo_65 mi_X5_putLink ml_X8_97 se_X5_putLink L_27 rfl rfl rfl (Nat.le_of_ble_eq_true rfl) h (fun m2 h => ?_)
  refine xr_aload_n dX8_addTwo_68 rfl ?_
  refine xr_getR dX8_addTwo_69 fl_X8_12 L_26 rfl ?_
  refine xr_bipush dX8_addTwo_72 (by decide) ?_
  refine xr_cvV (As := [xi 11]) dX8_addTwo_74 mi_X5_put ml_X8_100 se_X5_put L_27 rfl rfl rfl (Nat.le_of_ble_eq_true rfl) h (fun m4 h => ?_)
  refine xr_aload_n dX8_addTwo_77 rfl ?_
  refine xr_getR dX8_addTwo_78 fl_X8_12 L_26 rfl ?_
  refine xr_bipush dX8_addTwo_81 (by decide) ?_
  refine xr_iload_n dX8_addTwo_83 rfl ?_
  refine xr_cvV (As := [xi 29, xi v1]) dX8_addTwo_84 mi_X5_putWord ml_X8_94 se_X5_putWord L_27 rfl rfl rfl (Nat.le_of_ble_eq_true rfl) h (fun m6 h => ?_)
  refine xr_aload_n dX8_addTwo_87 rfl ?_
  refine xr_getR dX8_addTwo_88 fl_X8_12 L_26 rfl ?_
  refine xr_sipush dX8_addTwo_91 (by decide) ?_
  refine xr_iload_n dX8_addTwo_94 rfl ?_
  refine xr_cvV (As := [xi 7920, xi v2]) dX8_addTwo_95 mi_X5_keep ml_X8_103 se_X5_keep L_27 rfl rfl rfl (Nat.le_of_ble_eq_true rfl) h (fun m8 h => ?_)
  exact xr_ret dX8_addTwo_98 rfl ⟨rfl, rfl, h⟩
set_option maxRecDepth 20000 in
theorem E_X8_addFront {G : xG} {l : Launch} {d : Nat} {P : xMem → Prop} {v1 v2 : Int} {μ : xMem} (h : ((0 ≤ v2 ∧ v2 < 7922) ∧ (iR (μ 29 v2) ∧ ((μ 29 v2) ≤ 0 → P μ) ∧ (0 < (μ 29 v2) → CI G l d mX5_offer [xr G 27, xi 7920, xi (μ 29 v2), xi (1 + (μ 30 v2))] μ (fun r5 m6 => ((r5 = 0 → P m6) ∧ (r5 ≠ 0 → CV G l d mX5_putWord [xr G 27, xi 29, xi 0] m6 (fun m10 => CV G l d mX5_put [xr G 27, xi 11] m10 (fun m12 => CV G l d mX5_putLink [xr G 27, xi v1] m12 (fun m14 => CV G l d mX5_putName [xr G 27, xi v2] m14 (fun m16 => CV G l d mX5_keep [xr G 27, xi 7920, xi (1 + (μ 30 v2))] m16 (fun m18 => P m18)))))))))))) : CV G l (d + 1) mX8_addFront [xr G 26, xi v1, xi v2] μ P := by
  refine CC.ofRR (ll := [some (xr G 26), some (xi v1), some (xi v2), none]) (by decide +kernel) (Nat.le_of_ble_eq_true rfl) rfl (fun h => by cases h) ?_
  refine xr_iconst dX8_addFront_0 ?_
  refine xr_aload_n dX8_addFront_1 rfl ?_
  refine xr_getR dX8_addFront_2 fl_X8_12 L_26 rfl ?_
  refine xr_getR dX8_addFront_5 fl_X8_75 L_27 rfl ?_
  refine xr_iload_n dX8_addFront_8 rfl ?_
  obtain ⟨q1, h⟩ := h
  refine xr_iaload' (v := μ 30 v2) dX8_addFront_9 L_30 rfl (by decide) q1 rfl ?_
  refine xr_iadd dX8_addFront_10 ?_
  refine xr_istore_n' (ll' := [some (xr G 26), some (xi v1), some (xi v2), some (xi (1 + (μ 30 v2)))]) dX8_addFront_11 (by decide) rfl rfl ?_
  refine xr_aload_n dX8_addFront_12 rfl ?_
  refine xr_getR dX8_addFront_13 fl_X8_12 L_26 rfl ?_
  refine xr_getR dX8_addFront_16 fl_X8_71 L_27 rfl ?_
  refine xr_iload_n dX8_addFront_19 rfl ?_
  refine xr_iaload' (v := μ 29 v2) dX8_addFront_20 L_29 rfl (by decide) q1 rfl ?_
  obtain ⟨q2, hT3, hF4⟩ := h
  refine xr_if_le (tgt := 93) dX8_addFront_21 (by decide) q2  (fun c => ?_) (fun c => ?_)
  · have h := hT3 c
    exact xr_ret dX8_addFront_93 rfl ⟨rfl, rfl, h⟩
  · have h := hF4 (Int.not_le.mp c)
    refine xr_aload_n dX8_addFront_24 rfl ?_
    refine xr_getR dX8_addFront_25 fl_X8_12 L_26 rfl ?_
    refine xr_sipush dX8_addFront_28 (by decide) ?_
    refine xr_aload_n dX8_addFront_31 rfl ?_
    refine xr_getR dX8_addFront_32 fl_X8_12 L_26 rfl ?_
    refine xr_getR dX8_addFront_35 fl_X8_71 L_27 rfl ?_
    refine xr_iload_n dX8_addFront_38 rfl ?_
    refine xr_iaload' (v := μ 29 v2) dX8_addFront_39 L_29 rfl (by decide) q1 rfl ?_
    refine xr_iload_n dX8_addFront_40 rfl ?_
    refine xr_cvI (As := [xi 7920, xi (μ 29 v2), xi (1 + (μ 30 v2))]) dX8_addFront_41 mi_X5_offer ml_X8_90 se_X5_offer L_27 rfl rfl rfl (Nat.le_of_ble_eq_true rfl) h (fun r5 m6 hr5 h => ?_)
    obtain ⟨hT7, hF8⟩ := h
    refine xr_if_eq (tgt := 93) dX8_addFront_44 (by decide) hr5  (fun c => ?_) (fun c => ?_)
    · have h := hT7 c
      exact xr_ret dX8_addFront_93 rfl ⟨rfl, rfl, h⟩
    · have h := hF8 c
      refine xr_aload_n dX8_addFront_47 rfl ?_
      refine xr_getR dX8_addFront_48 fl_X8_12 L_26 rfl ?_
      refine xr_bipush dX8_addFront_51 (by decide) ?_
      refine xr_iconst dX8_addFront_53 ?_
      refine xr_cvV (As := [xi 29, xi 0]) dX8_addFront_54 mi_X5_putWord ml_X8_94 se_X5_putWord L_27 rfl rfl rfl (Nat.le_of_ble_eq_true rfl) h (fun m10 h => ?_)
      refine xr_aload_n dX8_addFront_57 rfl ?_
      refine xr_getR dX8_addFront_58 fl_X8_12 L_26 rfl ?_
      refine xr_bipush dX8_addFront_61 (by decide) ?_
      refine xr_cvV (As := [xi 11]) dX8_addFront_63 mi_X5_put ml_X8_100 se_X5_put L_27 rfl rfl rfl (Nat.le_of_ble_eq_true rfl) h (fun m12 h => ?_)
      refine xr_aload_n dX8_addFront_66 rfl ?_
      refine xr_getR dX8_addFront_67 fl_X8_12 L_26 rfl ?_
      refine xr_iload_n dX8_addFront_70 rfl ?_
      refine xr_cvV (As := [xi v1]) dX8_addFront_71 mi_X5_putLink ml_X8_97 se_X5_putLink L_27 rfl rfl rfl (Nat.le_of_ble_eq_true rfl) h (fun m14 h => ?_)
      refine xr_aload_n dX8_addFront_74 rfl ?_
      refine xr_getR dX8_addFront_75 fl_X8_12 L_26 rfl ?_
      refine xr_iload_n dX8_addFront_78 rfl ?_
      refine xr_cvV (As := [xi v2]) dX8_addFront_79 mi_X5_putName ml_X8_106 se_X5_putName L_27 rfl rfl rfl (Nat.le_of_ble_eq_true rfl) h (fun m16 h => ?_)
      refine xr_aload_n dX8_addFront_82 rfl ?_
      refine xr_getR dX8_addFront_83 fl_X8_12 L_26 rfl ?_
      refine xr_sipush dX8_addFront_86 (by decide) ?_
      refine xr_iload_n dX8_addFront_89 rfl ?_
      refine xr_cvV (As := [xi 7920, xi (1 + (μ 30 v2))]) dX8_addFront_90 mi_X5_keep ml_X8_103 se_X5_keep L_27 rfl rfl rfl (Nat.le_of_ble_eq_true rfl) h (fun m18 h => ?_)
      exact xr_ret dX8_addFront_93 rfl ⟨rfl, rfl, h⟩
set_option maxRecDepth 20000 in
theorem E_X8_addBack {G : xG} {l : Launch} {d : Nat} {P : xMem → Prop} {v1 v2 : Int} {μ : xMem} (h : ((0 ≤ v2 ∧ v2 < 7922) ∧ (iR (μ 29 v2) ∧ ((μ 29 v2) ≤ 0 → P μ) ∧ (0 < (μ 29 v2) → CI G l d mX5_offer [xr G 27, xi 7920, xi (μ 29 v2), xi (1 + (μ 30 v2))] μ (fun r5 m6 => ((r5 = 0 → P m6) ∧ (r5 ≠ 0 → CV G l d mX5_putName [xr G 27, xi v2] m6 (fun m10 => CV G l d mX5_putLink [xr G 27, xi v1] m10 (fun m12 => CV G l d mX5_put [xr G 27, xi 11] m12 (fun m14 => CV G l d mX5_putWord [xr G 27, xi 29, xi ((m14 33 5) - 1)] m14 (fun m16 => CV G l d mX5_keep [xr G 27, xi 7920, xi (1 + (μ 30 v2))] m16 (fun m18 => P m18)))))))))))) : CV G l (d + 1) mX8_addBack [xr G 26, xi v1, xi v2] μ P := by
  refine CC.ofRR (ll := [some (xr G 26), some (xi v1), some (xi v2), none]) (by decide +kernel) (Nat.le_of_ble_eq_true rfl) rfl (fun h => by cases h) ?_
  refine xr_iconst dX8_addBack_0 ?_
  refine xr_aload_n dX8_addBack_1 rfl ?_
  refine xr_getR dX8_addBack_2 fl_X8_12 L_26 rfl ?_
  refine xr_getR dX8_addBack_5 fl_X8_75 L_27 rfl ?_
  refine xr_iload_n dX8_addBack_8 rfl ?_
  obtain ⟨q1, h⟩ := h
  refine xr_iaload' (v := μ 30 v2) dX8_addBack_9 L_30 rfl (by decide) q1 rfl ?_
  refine xr_iadd dX8_addBack_10 ?_
  refine xr_istore_n' (ll' := [some (xr G 26), some (xi v1), some (xi v2), some (xi (1 + (μ 30 v2)))]) dX8_addBack_11 (by decide) rfl rfl ?_
  refine xr_aload_n dX8_addBack_12 rfl ?_
  refine xr_getR dX8_addBack_13 fl_X8_12 L_26 rfl ?_
  refine xr_getR dX8_addBack_16 fl_X8_71 L_27 rfl ?_
  refine xr_iload_n dX8_addBack_19 rfl ?_
  refine xr_iaload' (v := μ 29 v2) dX8_addBack_20 L_29 rfl (by decide) q1 rfl ?_
  obtain ⟨q2, hT3, hF4⟩ := h
  refine xr_if_le (tgt := 101) dX8_addBack_21 (by decide) q2  (fun c => ?_) (fun c => ?_)
  · have h := hT3 c
    exact xr_ret dX8_addBack_101 rfl ⟨rfl, rfl, h⟩
  · have h := hF4 (Int.not_le.mp c)
    refine xr_aload_n dX8_addBack_24 rfl ?_
    refine xr_getR dX8_addBack_25 fl_X8_12 L_26 rfl ?_
    refine xr_sipush dX8_addBack_28 (by decide) ?_
    refine xr_aload_n dX8_addBack_31 rfl ?_
    refine xr_getR dX8_addBack_32 fl_X8_12 L_26 rfl ?_
    refine xr_getR dX8_addBack_35 fl_X8_71 L_27 rfl ?_
    refine xr_iload_n dX8_addBack_38 rfl ?_
    refine xr_iaload' (v := μ 29 v2) dX8_addBack_39 L_29 rfl (by decide) q1 rfl ?_
    refine xr_iload_n dX8_addBack_40 rfl ?_
    refine xr_cvI (As := [xi 7920, xi (μ 29 v2), xi (1 + (μ 30 v2))]) dX8_addBack_41 mi_X5_offer ml_X8_90 se_X5_offer L_27 rfl rfl rfl (Nat.le_of_ble_eq_true rfl) h (fun r5 m6 hr5 h => ?_)
    obtain ⟨hT7, hF8⟩ := h
    refine xr_if_eq (tgt := 101) dX8_addBack_44 (by decide) hr5  (fun c => ?_) (fun c => ?_)
    · have h := hT7 c
      exact xr_ret dX8_addBack_101 rfl ⟨rfl, rfl, h⟩
    · have h := hF8 c
      refine xr_aload_n dX8_addBack_47 rfl ?_
      refine xr_getR dX8_addBack_48 fl_X8_12 L_26 rfl ?_
      refine xr_iload_n dX8_addBack_51 rfl ?_
      refine xr_cvV (As := [xi v2]) dX8_addBack_52 mi_X5_putName ml_X8_106 se_X5_putName L_27 rfl rfl rfl (Nat.le_of_ble_eq_true rfl) h (fun m10 h => ?_)
      refine xr_aload_n dX8_addBack_55 rfl ?_
      refine xr_getR dX8_addBack_56 fl_X8_12 L_26 rfl ?_
      refine xr_iload_n dX8_addBack_59 rfl ?_
      refine xr_cvV (As := [xi v1]) dX8_addBack_60 mi_X5_putLink ml_X8_97 se_X5_putLink L_27 rfl rfl rfl (Nat.le_of_ble_eq_true rfl) h (fun m12 h => ?_)
      refine xr_aload_n dX8_addBack_63 rfl ?_
      refine xr_getR dX8_addBack_64 fl_X8_12 L_26 rfl ?_
      refine xr_bipush dX8_addBack_67 (by decide) ?_
      refine xr_cvV (As := [xi 11]) dX8_addBack_69 mi_X5_put ml_X8_100 se_X5_put L_27 rfl rfl rfl (Nat.le_of_ble_eq_true rfl) h (fun m14 h => ?_)
      refine xr_aload_n dX8_addBack_72 rfl ?_
      refine xr_getR dX8_addBack_73 fl_X8_12 L_26 rfl ?_
      refine xr_bipush dX8_addBack_76 (by decide) ?_
      refine xr_aload_n dX8_addBack_78 rfl ?_
      refine xr_getR dX8_addBack_79 fl_X8_23 L_26 rfl ?_
      refine xr_getI' (v := m14 33 5) dX8_addBack_82 fl_X8_35 L_33 rfl rfl rfl ?_
      refine xr_iconst dX8_addBack_85 ?_
      refine xr_isub dX8_addBack_86 ?_
      refine xr_cvV (As := [xi 29, xi ((m14 33 5) - 1)]) dX8_addBack_87 mi_X5_putWord ml_X8_94 se_X5_putWord L_27 rfl rfl rfl (Nat.le_of_ble_eq_true rfl) h (fun m16 h => ?_)
      refine xr_aload_n dX8_addBack_90 rfl ?_
      refine xr_getR dX8_addBack_91 fl_X8_12 L_26 rfl ?_
      refine xr_sipush dX8_addBack_94 (by decide) ?_
      refine xr_iload_n dX8_addBack_97 rfl ?_
      refine xr_cvV (As := [xi 7920, xi (1 + (μ 30 v2))]) dX8_addBack_98 mi_X5_keep ml_X8_103 se_X5_keep L_27 rfl rfl rfl (Nat.le_of_ble_eq_true rfl) h (fun m18 h => ?_)
      exact xr_ret dX8_addBack_101 rfl ⟨rfl, rfl, h⟩
def K_X8_rowOf_99 (G : xG) (l : Launch) (d : Nat) (P : Int → xMem → Prop) (v1 v2 v3 v4 v5 v6 v7 v8 : Int) (μ : xMem) : Prop := RR G l d 0 0 false mX8_rowOf (qI P) 99 [some (xr G 26), some (xi v1), some (xi v2), some (xi v3), some (xi v4), some (xi v5), some (xi v6), some (xi v7), some (xi v8), none, none] [] LAY μ 0 0
def K_X8_rowOf_123 (G : xG) (l : Launch) (d : Nat) (P : Int → xMem → Prop) (v1 v2 v3 v4 v5 v6 v7 v8 v9 : Int) (μ : xMem) : Prop := RR G l d 0 0 false mX8_rowOf (qI P) 123 [some (xr G 26), some (xi v1), some (xi v2), some (xi v3), some (xi v4), some (xi v5), some (xi v6), some (xi v7), some (xi v8), some (xi v9), none] [] LAY μ 0 0
set_option maxRecDepth 20000 in
theorem E_X8_rowOf {G : xG} {l : Launch} {d : Nat} {P : Int → xMem → Prop} {v1 v2 v3 v4 v5 v6 : Int} {μ : xMem} (h : (iR v2 ∧ iR v3 ∧ (v3 < v2 → P 7921 μ) ∧ (v2 ≤ v3 → (iR v4 ∧ iR v5 ∧ (v5 ≤ v4 → P 7921 μ) ∧ (v4 < v5 → (iR v6 ∧ (v6 ≤ 40 → CI G l d mX5_placeOf [xr G 27, xi v1, xi v2, xi v3, xi v4, xi v5] μ (fun r12 m13 => CI G l d mX5_isOpen [xr G 27, xi r12] m13 (fun r14 m15 => ((r14 = 0 → CV G l d mX5_open [xr G 27, xi r12] m15 (fun m19 => CI G l d mX9_mayBePiece [xr G 33, xi v2, xi v3] m19 (fun r20 m21 => ((r20 = 0 → K_X8_rowOf_99 G l (d + 1) P v1 v2 v3 v4 v5 v6 r12 v2 m21) ∧ (r20 ≠ 0 → CI G l d mX8_pieceOf [xr G 26, xi v1, xi v2, xi v3, xi v4, xi v5, xi (v6 + 1)] m21 (fun r24 m25 => CV G l d mX8_addAlone [xr G 26, xi r12, xi r24] m25 (fun m27 => K_X8_rowOf_99 G l (d + 1) P v1 v2 v3 v4 v5 v6 r12 v2 m27))))))) ∧ (r14 ≠ 0 → P r12 m15))))) ∧ (40 < v6 → P 7921 μ))))))) : CI G l (d + 1) mX8_rowOf [xr G 26, xi v1, xi v2, xi v3, xi v4, xi v5, xi v6] μ P := by
  refine CC.ofRR (ll := [some (xr G 26), some (xi v1), some (xi v2), some (xi v3), some (xi v4), some (xi v5), some (xi v6), none, none, none, none]) (by decide +kernel) (Nat.le_of_ble_eq_true rfl) rfl (fun h => by cases h) ?_
  refine xr_iload_n dX8_rowOf_0 rfl ?_
  refine xr_iload_n dX8_rowOf_1 rfl ?_
  obtain ⟨q1, q2, hT3, hF4⟩ := h
  refine xr_icmp_gt (tgt := 19) dX8_rowOf_2 (by decide) q1 q2 (fun c => ?_) (fun c => ?_)
  · have h := hT3 c
    refine xr_sipush dX8_rowOf_19 (by decide) ?_
    exact xr_iret dX8_rowOf_22 rfl ⟨rfl, _, rfl, (by decide), h⟩
  · have h := hF4 (Int.not_lt.mp c)
    refine xr_iload dX8_rowOf_5 rfl ?_
    refine xr_iload dX8_rowOf_7 rfl ?_
    obtain ⟨q5, q6, hT7, hF8⟩ := h
    refine xr_icmp_ge (tgt := 19) dX8_rowOf_9 (by decide) q5 q6 (fun c => ?_) (fun c => ?_)
    · have h := hT7 c
      refine xr_sipush dX8_rowOf_19 (by decide) ?_
      exact xr_iret dX8_rowOf_22 rfl ⟨rfl, _, rfl, (by decide), h⟩
    · have h := hF8 (Int.not_le.mp c)
      refine xr_iload dX8_rowOf_12 rfl ?_
      refine xr_bipush dX8_rowOf_14 (by decide) ?_
      obtain ⟨q9, hT10, hF11⟩ := h
      refine xr_icmp_le (tgt := 23) dX8_rowOf_16 (by decide) q9 (by decide) (fun c => ?_) (fun c => ?_)
      · have h := hT10 c
        refine xr_aload_n dX8_rowOf_23 rfl ?_
        refine xr_getR dX8_rowOf_24 fl_X8_12 L_26 rfl ?_
        refine xr_iload_n dX8_rowOf_27 rfl ?_
        refine xr_iload_n dX8_rowOf_28 rfl ?_
        refine xr_iload_n dX8_rowOf_29 rfl ?_
        refine xr_iload dX8_rowOf_30 rfl ?_
        refine xr_iload dX8_rowOf_32 rfl ?_
        refine xr_cvI (As := [xi v1, xi v2, xi v3, xi v4, xi v5]) dX8_rowOf_34 mi_X5_placeOf ml_X8_109 se_X5_placeOf L_27 rfl rfl rfl (Nat.le_of_ble_eq_true rfl) h (fun r12 m13 hr12 h => ?_)
        refine xr_istore' (ll' := [some (xr G 26), some (xi v1), some (xi v2), some (xi v3), some (xi v4), some (xi v5), some (xi v6), some (xi r12), none, none, none]) dX8_rowOf_37 (by decide) rfl rfl ?_
        refine xr_aload_n dX8_rowOf_39 rfl ?_
        refine xr_getR dX8_rowOf_40 fl_X8_12 L_26 rfl ?_
        refine xr_iload dX8_rowOf_43 rfl ?_
        refine xr_cvI (As := [xi r12]) dX8_rowOf_45 mi_X5_isOpen ml_X8_113 se_X5_isOpen L_27 rfl rfl rfl (Nat.le_of_ble_eq_true rfl) h (fun r14 m15 hr14 h => ?_)
        obtain ⟨hT16, hF17⟩ := h
        refine xr_if_eq (tgt := 54) dX8_rowOf_48 (by decide) hr14  (fun c => ?_) (fun c => ?_)
        · have h := hT16 c
          refine xr_aload_n dX8_rowOf_54 rfl ?_
          refine xr_getR dX8_rowOf_55 fl_X8_12 L_26 rfl ?_
          refine xr_iload dX8_rowOf_58 rfl ?_
          refine xr_cvV (As := [xi r12]) dX8_rowOf_60 mi_X5_open ml_X8_116 se_X5_open L_27 rfl rfl rfl (Nat.le_of_ble_eq_true rfl) h (fun m19 h => ?_)
          refine xr_aload_n dX8_rowOf_63 rfl ?_
          refine xr_getR dX8_rowOf_64 fl_X8_23 L_26 rfl ?_
          refine xr_iload_n dX8_rowOf_67 rfl ?_
          refine xr_iload_n dX8_rowOf_68 rfl ?_
          refine xr_cvI (As := [xi v2, xi v3]) dX8_rowOf_69 mi_X9_mayBePiece ml_X8_119 se_X9_mayBePiece L_33 rfl rfl rfl (Nat.le_of_ble_eq_true rfl) h (fun r20 m21 hr20 h => ?_)
          obtain ⟨hT22, hF23⟩ := h
          refine xr_if_eq (tgt := 96) dX8_rowOf_72 (by decide) hr20  (fun c => ?_) (fun c => ?_)
          · have h := hT22 c
            refine xr_iload_n dX8_rowOf_96 rfl ?_
            refine xr_istore' (ll' := [some (xr G 26), some (xi v1), some (xi v2), some (xi v3), some (xi v4), some (xi v5), some (xi v6), some (xi r12), some (xi v2), none, none]) dX8_rowOf_97 (by decide) rfl rfl ?_
            exact h
          · have h := hF23 c
            refine xr_aload_n dX8_rowOf_75 rfl ?_
            refine xr_iload dX8_rowOf_76 rfl ?_
            refine xr_aload_n dX8_rowOf_78 rfl ?_
            refine xr_iload_n dX8_rowOf_79 rfl ?_
            refine xr_iload_n dX8_rowOf_80 rfl ?_
            refine xr_iload_n dX8_rowOf_81 rfl ?_
            refine xr_iload dX8_rowOf_82 rfl ?_
            refine xr_iload dX8_rowOf_84 rfl ?_
            refine xr_iload dX8_rowOf_86 rfl ?_
            refine xr_iconst dX8_rowOf_88 ?_
            refine xr_iadd dX8_rowOf_89 ?_
            refine xr_cvI (As := [xi v1, xi v2, xi v3, xi v4, xi v5, xi (v6 + 1)]) dX8_rowOf_90 mi_X8_pieceOf ml_X8_122 se_X8_pieceOf L_26 rfl rfl rfl (Nat.le_of_ble_eq_true rfl) h (fun r24 m25 hr24 h => ?_)
            refine xr_cvV (As := [xi r12, xi r24]) dX8_rowOf_93 mi_X8_addAlone ml_X8_125 se_X8_addAlone L_26 rfl rfl rfl (Nat.le_of_ble_eq_true rfl) h (fun m27 h => ?_)
            refine xr_iload_n dX8_rowOf_96 rfl ?_
            refine xr_istore' (ll' := [some (xr G 26), some (xi v1), some (xi v2), some (xi v3), some (xi v4), some (xi v5), some (xi v6), some (xi r12), some (xi v2), none, none]) dX8_rowOf_97 (by decide) rfl rfl ?_
            exact h
        · have h := hF17 c
          refine xr_iload dX8_rowOf_51 rfl ?_
          exact xr_iret dX8_rowOf_53 rfl ⟨rfl, _, rfl, hr12, h⟩
      · have h := hF11 (Int.not_le.mp c)
        refine xr_sipush dX8_rowOf_19 (by decide) ?_
        exact xr_iret dX8_rowOf_22 rfl ⟨rfl, _, rfl, (by decide), h⟩
set_option maxRecDepth 20000 in
theorem B_X8_rowOf_99 {G : xG} {l : Launch} {d : Nat} {P : Int → xMem → Prop} {v1 v2 v3 v4 v5 v6 v7 v8 : Int} {μ : xMem} (h : (iR v8 ∧ iR v3 ∧ (v3 ≤ v8 → (iR v7 ∧ P v7 μ)) ∧ (v8 < v3 → CI G l d mX5_hasEnough [xr G 27, xi v7] μ (fun r6 m7 => ((r6 ≠ 0 → (iR v7 ∧ P v7 m7)) ∧ (r6 = 0 → K_X8_rowOf_123 G l (d + 1) P v1 v2 v3 v4 v5 v6 v7 v8 (v4 + 1) m7)))))) : K_X8_rowOf_99 G l (d + 1) P v1 v2 v3 v4 v5 v6 v7 v8 μ := by
  unfold K_X8_rowOf_99
  refine xr_iload dX8_rowOf_99 rfl ?_
  refine xr_iload_n dX8_rowOf_101 rfl ?_
  obtain ⟨q1, q2, hT3, hF4⟩ := h
  refine xr_icmp_ge (tgt := 274) dX8_rowOf_102 (by decide) q1 q2 (fun c => ?_) (fun c => ?_)
  · have h := hT3 c
    refine xr_iload dX8_rowOf_274 rfl ?_
    obtain ⟨q5, h⟩ := h
    exact xr_iret dX8_rowOf_276 rfl ⟨rfl, _, rfl, q5, h⟩
  · have h := hF4 (Int.not_le.mp c)
    refine xr_aload_n dX8_rowOf_105 rfl ?_
    refine xr_getR dX8_rowOf_106 fl_X8_12 L_26 rfl ?_
    refine xr_iload dX8_rowOf_109 rfl ?_
    refine xr_cvI (As := [xi v7]) dX8_rowOf_111 mi_X5_hasEnough ml_X8_64 se_X5_hasEnough L_27 rfl rfl rfl (Nat.le_of_ble_eq_true rfl) h (fun r6 m7 hr6 h => ?_)
    obtain ⟨hT8, hF9⟩ := h
    refine xr_if_ne (tgt := 274) dX8_rowOf_114 (by decide) hr6  (fun c => ?_) (fun c => ?_)
    · have h := hT8 c
      refine xr_iload dX8_rowOf_274 rfl ?_
      obtain ⟨q10, h⟩ := h
      exact xr_iret dX8_rowOf_276 rfl ⟨rfl, _, rfl, q10, h⟩
    · have h := hF9 c
      refine xr_iload dX8_rowOf_117 rfl ?_
      refine xr_iconst dX8_rowOf_119 ?_
      refine xr_iadd dX8_rowOf_120 ?_
      refine xr_istore' (ll' := [some (xr G 26), some (xi v1), some (xi v2), some (xi v3), some (xi v4), some (xi v5), some (xi v6), some (xi v7), some (xi v8), some (xi (v4 + 1)), none]) dX8_rowOf_121 (by decide) rfl rfl ?_
      exact h
set_option maxRecDepth 20000 in
theorem B_X8_rowOf_123 {G : xG} {l : Launch} {d : Nat} {P : Int → xMem → Prop} {v1 v2 v3 v4 v5 v6 v7 v8 v9 : Int} {μ : xMem} (h : (iR v9 ∧ iR v5 ∧ (v5 ≤ v9 → K_X8_rowOf_99 G l (d + 1) P v1 v2 v3 v4 v5 v6 v7 (v8 + 1) μ) ∧ (v9 < v5 → CI G l d mX9_mayBePiece [xr G 33, xi v2, xi v8] μ (fun r5 m6 => ((r5 = 0 → K_X8_rowOf_99 G l (d + 1) P v1 v2 v3 v4 v5 v6 v7 (v8 + 1) m6) ∧ (r5 ≠ 0 → CI G l d mX5_hasEnough [xr G 27, xi v7] m6 (fun r9 m10 => ((r9 ≠ 0 → K_X8_rowOf_99 G l (d + 1) P v1 v2 v3 v4 v5 v6 v7 (v8 + 1) m10) ∧ (r9 = 0 → CI G l d mX8_pieceOf [xr G 26, xi v1, xi v2, xi v8, xi v4, xi v9, xi (v6 + 1)] m10 (fun r13 m14 => ((0 ≤ r13 ∧ r13 < 7922) ∧ (iR (m14 29 r13) ∧ ((m14 29 r13) ≠ 0 → CI G l d mX8_rowOf [xr G 26, xi v1, xi (v8 + 1), xi v3, xi v9, xi v5, xi (v6 + 1)] m14 (fun r19 m20 => CV G l d mX8_addJoined [xr G 26, xi v7, xi r13, xi (-1), xi r19] m20 (fun m22 => CI G l d mX9_isSign [xr G 33, xi (v8 + 1), xi 9] m22 (fun r23 m24 => ((r23 = 0 → K_X8_rowOf_123 G l (d + 1) P v1 v2 v3 v4 v5 v6 v7 v8 (v9 + 1) m24) ∧ (r23 ≠ 0 → CI G l d mX8_rowOf [xr G 26, xi v1, xi (v8 + 2), xi v3, xi v9, xi v5, xi (v6 + 1)] m24 (fun r27 m28 => CV G l d mX8_addJoined [xr G 26, xi v7, xi r13, xi (v8 + 1), xi r27] m28 (fun m30 => K_X8_rowOf_123 G l (d + 1) P v1 v2 v3 v4 v5 v6 v7 v8 (v9 + 1) m30)))))))) ∧ ((m14 29 r13) = 0 → K_X8_rowOf_123 G l (d + 1) P v1 v2 v3 v4 v5 v6 v7 v8 (v9 + 1) m14))))))))))))) : K_X8_rowOf_123 G l (d + 1) P v1 v2 v3 v4 v5 v6 v7 v8 v9 μ := by
  unfold K_X8_rowOf_123
  refine xr_iload dX8_rowOf_123 rfl ?_
  refine xr_iload dX8_rowOf_125 rfl ?_
  obtain ⟨q1, q2, hT3, hF4⟩ := h
  refine xr_icmp_ge (tgt := 268) dX8_rowOf_127 (by decide) q1 q2 (fun c => ?_) (fun c => ?_)
  · have h := hT3 c
    refine xr_iinc' (ll' := [some (xr G 26), some (xi v1), some (xi v2), some (xi v3), some (xi v4), some (xi v5), some (xi v6), some (xi v7), some (xi (v8 + 1)), some (xi v9), none]) dX8_rowOf_268 rfl (by decide) rfl rfl ?_
    refine xr_goto (tgt := 99) dX8_rowOf_271 (by decide) ?_
    refine xr_wk (ll' := [some (xr G 26), some (xi v1), some (xi v2), some (xi v3), some (xi v4), some (xi v5), some (xi v6), some (xi v7), some (xi (v8 + 1)), none, none]) ⟨rfl, ⟨rfl, ⟨rfl, ⟨rfl, ⟨rfl, ⟨rfl, ⟨rfl, ⟨rfl, ⟨rfl, trivial⟩⟩⟩⟩⟩⟩⟩⟩⟩ ?_
    exact h
  · have h := hF4 (Int.not_le.mp c)
    refine xr_aload_n dX8_rowOf_130 rfl ?_
    refine xr_getR dX8_rowOf_131 fl_X8_23 L_26 rfl ?_
    refine xr_iload_n dX8_rowOf_134 rfl ?_
    refine xr_iload dX8_rowOf_135 rfl ?_
    refine xr_cvI (As := [xi v2, xi v8]) dX8_rowOf_137 mi_X9_mayBePiece ml_X8_119 se_X9_mayBePiece L_33 rfl rfl rfl (Nat.le_of_ble_eq_true rfl) h (fun r5 m6 hr5 h => ?_)
    obtain ⟨hT7, hF8⟩ := h
    refine xr_if_eq (tgt := 268) dX8_rowOf_140 (by decide) hr5  (fun c => ?_) (fun c => ?_)
    · have h := hT7 c
      refine xr_iinc' (ll' := [some (xr G 26), some (xi v1), some (xi v2), some (xi v3), some (xi v4), some (xi v5), some (xi v6), some (xi v7), some (xi (v8 + 1)), some (xi v9), none]) dX8_rowOf_268 rfl (by decide) rfl rfl ?_
      refine xr_goto (tgt := 99) dX8_rowOf_271 (by decide) ?_
      refine xr_wk (ll' := [some (xr G 26), some (xi v1), some (xi v2), some (xi v3), some (xi v4), some (xi v5), some (xi v6), some (xi v7), some (xi (v8 + 1)), none, none]) ⟨rfl, ⟨rfl, ⟨rfl, ⟨rfl, ⟨rfl, ⟨rfl, ⟨rfl, ⟨rfl, ⟨rfl, trivial⟩⟩⟩⟩⟩⟩⟩⟩⟩ ?_
      exact h
    · have h := hF8 c
      refine xr_aload_n dX8_rowOf_143 rfl ?_
      refine xr_getR dX8_rowOf_144 fl_X8_12 L_26 rfl ?_
      refine xr_iload dX8_rowOf_147 rfl ?_
      refine xr_cvI (As := [xi v7]) dX8_rowOf_149 mi_X5_hasEnough ml_X8_64 se_X5_hasEnough L_27 rfl rfl rfl (Nat.le_of_ble_eq_true rfl) h (fun r9 m10 hr9 h => ?_)
      obtain ⟨hT11, hF12⟩ := h
      refine xr_if_ne (tgt := 268) dX8_rowOf_152 (by decide) hr9  (fun c => ?_) (fun c => ?_)
      · have h := hT11 c
        refine xr_iinc' (ll' := [some (xr G 26), some (xi v1), some (xi v2), some (xi v3), some (xi v4), some (xi v5), some (xi v6), some (xi v7), some (xi (v8 + 1)), some (xi v9), none]) dX8_rowOf_268 rfl (by decide) rfl rfl ?_
        refine xr_goto (tgt := 99) dX8_rowOf_271 (by decide) ?_
        refine xr_wk (ll' := [some (xr G 26), some (xi v1), some (xi v2), some (xi v3), some (xi v4), some (xi v5), some (xi v6), some (xi v7), some (xi (v8 + 1)), none, none]) ⟨rfl, ⟨rfl, ⟨rfl, ⟨rfl, ⟨rfl, ⟨rfl, ⟨rfl, ⟨rfl, ⟨rfl, trivial⟩⟩⟩⟩⟩⟩⟩⟩⟩ ?_
        exact h
      · have h := hF12 c
        refine xr_aload_n dX8_rowOf_155 rfl ?_
        refine xr_iload_n dX8_rowOf_156 rfl ?_
        refine xr_iload_n dX8_rowOf_157 rfl ?_
        refine xr_iload dX8_rowOf_158 rfl ?_
        refine xr_iload dX8_rowOf_160 rfl ?_
        refine xr_iload dX8_rowOf_162 rfl ?_
        refine xr_iload dX8_rowOf_164 rfl ?_
        refine xr_iconst dX8_rowOf_166 ?_
        refine xr_iadd dX8_rowOf_167 ?_
        refine xr_cvI (As := [xi v1, xi v2, xi v8, xi v4, xi v9, xi (v6 + 1)]) dX8_rowOf_168 mi_X8_pieceOf ml_X8_122 se_X8_pieceOf L_26 rfl rfl rfl (Nat.le_of_ble_eq_true rfl) h (fun r13 m14 hr13 h => ?_)
        refine xr_istore' (ll' := [some (xr G 26), some (xi v1), some (xi v2), some (xi v3), some (xi v4), some (xi v5), some (xi v6), some (xi v7), some (xi v8), some (xi v9), some (xi r13)]) dX8_rowOf_171 (by decide) rfl rfl ?_
        refine xr_aload_n dX8_rowOf_173 rfl ?_
        refine xr_getR dX8_rowOf_174 fl_X8_12 L_26 rfl ?_
        refine xr_getR dX8_rowOf_177 fl_X8_71 L_27 rfl ?_
        refine xr_iload dX8_rowOf_180 rfl ?_
        obtain ⟨q15, h⟩ := h
        refine xr_iaload' (v := m14 29 r13) dX8_rowOf_182 L_29 rfl (by decide) q15 rfl ?_
        obtain ⟨q16, hT17, hF18⟩ := h
        refine xr_if_ne (tgt := 189) dX8_rowOf_183 (by decide) q16  (fun c => ?_) (fun c => ?_)
        · have h := hT17 c
          refine xr_aload_n dX8_rowOf_189 rfl ?_
          refine xr_iload dX8_rowOf_190 rfl ?_
          refine xr_iload dX8_rowOf_192 rfl ?_
          refine xr_iconst dX8_rowOf_194 ?_
          refine xr_aload_n dX8_rowOf_195 rfl ?_
          refine xr_iload_n dX8_rowOf_196 rfl ?_
          refine xr_iload dX8_rowOf_197 rfl ?_
          refine xr_iconst dX8_rowOf_199 ?_
          refine xr_iadd dX8_rowOf_200 ?_
          refine xr_iload_n dX8_rowOf_201 rfl ?_
          refine xr_iload dX8_rowOf_202 rfl ?_
          refine xr_iload dX8_rowOf_204 rfl ?_
          refine xr_iload dX8_rowOf_206 rfl ?_
          refine xr_iconst dX8_rowOf_208 ?_
          refine xr_iadd dX8_rowOf_209 ?_
          refine xr_cvI (As := [xi v1, xi (v8 + 1), xi v3, xi v9, xi v5, xi (v6 + 1)]) dX8_rowOf_210 mi_X8_rowOf ml_X8_53 se_X8_rowOf L_26 rfl rfl rfl (Nat.le_of_ble_eq_true rfl) h (fun r19 m20 hr19 h => ?_)
          refine xr_cvV (As := [xi v7, xi r13, xi (-1), xi r19]) dX8_rowOf_213 mi_X8_addJoined ml_X8_128 se_X8_addJoined L_26 rfl rfl rfl (Nat.le_of_ble_eq_true rfl) h (fun m22 h => ?_)
          refine xr_aload_n dX8_rowOf_216 rfl ?_
          refine xr_getR dX8_rowOf_217 fl_X8_23 L_26 rfl ?_
          refine xr_iload dX8_rowOf_220 rfl ?_
          refine xr_iconst dX8_rowOf_222 ?_
          refine xr_iadd dX8_rowOf_223 ?_
          refine xr_bipush dX8_rowOf_224 (by decide) ?_
          refine xr_cvI (As := [xi (v8 + 1), xi 9]) dX8_rowOf_226 mi_X9_isSign ml_X8_61 se_X9_isSign L_33 rfl rfl rfl (Nat.le_of_ble_eq_true rfl) h (fun r23 m24 hr23 h => ?_)
          obtain ⟨hT25, hF26⟩ := h
          refine xr_if_eq (tgt := 262) dX8_rowOf_229 (by decide) hr23  (fun c => ?_) (fun c => ?_)
          · have h := hT25 c
            refine xr_iinc' (ll' := [some (xr G 26), some (xi v1), some (xi v2), some (xi v3), some (xi v4), some (xi v5), some (xi v6), some (xi v7), some (xi v8), some (xi (v9 + 1)), some (xi r13)]) dX8_rowOf_262 rfl (by decide) rfl rfl ?_
            refine xr_goto (tgt := 123) dX8_rowOf_265 (by decide) ?_
            refine xr_wk (ll' := [some (xr G 26), some (xi v1), some (xi v2), some (xi v3), some (xi v4), some (xi v5), some (xi v6), some (xi v7), some (xi v8), some (xi (v9 + 1)), none]) ⟨rfl, ⟨rfl, ⟨rfl, ⟨rfl, ⟨rfl, ⟨rfl, ⟨rfl, ⟨rfl, ⟨rfl, ⟨rfl, trivial⟩⟩⟩⟩⟩⟩⟩⟩⟩⟩ ?_
            exact h
          · have h := hF26 c
            refine xr_aload_n dX8_rowOf_232 rfl ?_
            refine xr_iload dX8_rowOf_233 rfl ?_
            refine xr_iload dX8_rowOf_235 rfl ?_
            refine xr_iload dX8_rowOf_237 rfl ?_
            refine xr_iconst dX8_rowOf_239 ?_
            refine xr_iadd dX8_rowOf_240 ?_
            refine xr_aload_n dX8_rowOf_241 rfl ?_
            refine xr_iload_n dX8_rowOf_242 rfl ?_
            refine xr_iload dX8_rowOf_243 rfl ?_
            refine xr_iconst dX8_rowOf_245 ?_
            refine xr_iadd dX8_rowOf_246 ?_
            refine xr_iload_n dX8_rowOf_247 rfl ?_
            refine xr_iload dX8_rowOf_248 rfl ?_
            refine xr_iload dX8_rowOf_250 rfl ?_
            refine xr_iload dX8_rowOf_252 rfl ?_
            refine xr_iconst dX8_rowOf_254 ?_
            refine xr_iadd dX8_rowOf_255 ?_
            refine xr_cvI (As := [xi v1, xi (v8 + 2), xi v3, xi v9, xi v5, xi (v6 + 1)]) dX8_rowOf_256 mi_X8_rowOf ml_X8_53 se_X8_rowOf L_26 rfl rfl rfl (Nat.le_of_ble_eq_true rfl) h (fun r27 m28 hr27 h => ?_)
            refine xr_cvV (As := [xi v7, xi r13, xi (v8 + 1), xi r27]) dX8_rowOf_259 mi_X8_addJoined ml_X8_128 se_X8_addJoined L_26 rfl rfl rfl (Nat.le_of_ble_eq_true rfl) h (fun m30 h => ?_)
            refine xr_iinc' (ll' := [some (xr G 26), some (xi v1), some (xi v2), some (xi v3), some (xi v4), some (xi v5), some (xi v6), some (xi v7), some (xi v8), some (xi (v9 + 1)), some (xi r13)]) dX8_rowOf_262 rfl (by decide) rfl rfl ?_
            refine xr_goto (tgt := 123) dX8_rowOf_265 (by decide) ?_
            refine xr_wk (ll' := [some (xr G 26), some (xi v1), some (xi v2), some (xi v3), some (xi v4), some (xi v5), some (xi v6), some (xi v7), some (xi v8), some (xi (v9 + 1)), none]) ⟨rfl, ⟨rfl, ⟨rfl, ⟨rfl, ⟨rfl, ⟨rfl, ⟨rfl, ⟨rfl, ⟨rfl, ⟨rfl, trivial⟩⟩⟩⟩⟩⟩⟩⟩⟩⟩ ?_
            exact h
        · have h := hF18 c
          refine xr_goto (tgt := 262) dX8_rowOf_186 (by decide) ?_
          refine xr_iinc' (ll' := [some (xr G 26), some (xi v1), some (xi v2), some (xi v3), some (xi v4), some (xi v5), some (xi v6), some (xi v7), some (xi v8), some (xi (v9 + 1)), some (xi r13)]) dX8_rowOf_262 rfl (by decide) rfl rfl ?_
          refine xr_goto (tgt := 123) dX8_rowOf_265 (by decide) ?_
          refine xr_wk (ll' := [some (xr G 26), some (xi v1), some (xi v2), some (xi v3), some (xi v4), some (xi v5), some (xi v6), some (xi v7), some (xi v8), some (xi (v9 + 1)), none]) ⟨rfl, ⟨rfl, ⟨rfl, ⟨rfl, ⟨rfl, ⟨rfl, ⟨rfl, ⟨rfl, ⟨rfl, ⟨rfl, trivial⟩⟩⟩⟩⟩⟩⟩⟩⟩⟩ ?_
          exact h
set_option maxRecDepth 20000 in
theorem E_X8_addAlone {G : xG} {l : Launch} {d : Nat} {P : xMem → Prop} {v1 v2 : Int} {μ : xMem} (h : ((0 ≤ v2 ∧ v2 < 7922) ∧ (iR (μ 29 v2) ∧ ((μ 29 v2) ≤ 0 → P μ) ∧ (0 < (μ 29 v2) → CI G l d mX5_offer [xr G 27, xi v1, xi (μ 29 v2), xi (μ 30 v2)] μ (fun r5 m6 => ((r5 = 0 → P m6) ∧ (r5 ≠ 0 → CV G l d mX5_putName [xr G 27, xi v2] m6 (fun m10 => CV G l d mX5_keep [xr G 27, xi v1, xi (μ 30 v2)] m10 (fun m12 => P m12))))))))) : CV G l (d + 1) mX8_addAlone [xr G 26, xi v1, xi v2] μ P := by
  refine CC.ofRR (ll := [some (xr G 26), some (xi v1), some (xi v2), none]) (by decide +kernel) (Nat.le_of_ble_eq_true rfl) rfl (fun h => by cases h) ?_
  refine xr_aload_n dX8_addAlone_0 rfl ?_
  refine xr_getR dX8_addAlone_1 fl_X8_12 L_26 rfl ?_
  refine xr_getR dX8_addAlone_4 fl_X8_75 L_27 rfl ?_
  refine xr_iload_n dX8_addAlone_7 rfl ?_
  obtain ⟨q1, h⟩ := h
  refine xr_iaload' (v := μ 30 v2) dX8_addAlone_8 L_30 rfl (by decide) q1 rfl ?_
  refine xr_istore_n' (ll' := [some (xr G 26), some (xi v1), some (xi v2), some (xi (μ 30 v2))]) dX8_addAlone_9 (by decide) rfl rfl ?_
  refine xr_aload_n dX8_addAlone_10 rfl ?_
  refine xr_getR dX8_addAlone_11 fl_X8_12 L_26 rfl ?_
  refine xr_getR dX8_addAlone_14 fl_X8_71 L_27 rfl ?_
  refine xr_iload_n dX8_addAlone_17 rfl ?_
  refine xr_iaload' (v := μ 29 v2) dX8_addAlone_18 L_29 rfl (by decide) q1 rfl ?_
  obtain ⟨q2, hT3, hF4⟩ := h
  refine xr_if_le (tgt := 60) dX8_addAlone_19 (by decide) q2  (fun c => ?_) (fun c => ?_)
  · have h := hT3 c
    exact xr_ret dX8_addAlone_60 rfl ⟨rfl, rfl, h⟩
  · have h := hF4 (Int.not_le.mp c)
    refine xr_aload_n dX8_addAlone_22 rfl ?_
    refine xr_getR dX8_addAlone_23 fl_X8_12 L_26 rfl ?_
    refine xr_iload_n dX8_addAlone_26 rfl ?_
    refine xr_aload_n dX8_addAlone_27 rfl ?_
    refine xr_getR dX8_addAlone_28 fl_X8_12 L_26 rfl ?_
    refine xr_getR dX8_addAlone_31 fl_X8_71 L_27 rfl ?_
    refine xr_iload_n dX8_addAlone_34 rfl ?_
    refine xr_iaload' (v := μ 29 v2) dX8_addAlone_35 L_29 rfl (by decide) q1 rfl ?_
    refine xr_iload_n dX8_addAlone_36 rfl ?_
    refine xr_cvI (As := [xi v1, xi (μ 29 v2), xi (μ 30 v2)]) dX8_addAlone_37 mi_X5_offer ml_X8_90 se_X5_offer L_27 rfl rfl rfl (Nat.le_of_ble_eq_true rfl) h (fun r5 m6 hr5 h => ?_)
    obtain ⟨hT7, hF8⟩ := h
    refine xr_if_eq (tgt := 60) dX8_addAlone_40 (by decide) hr5  (fun c => ?_) (fun c => ?_)
    · have h := hT7 c
      exact xr_ret dX8_addAlone_60 rfl ⟨rfl, rfl, h⟩
    · have h := hF8 c
      refine xr_aload_n dX8_addAlone_43 rfl ?_
      refine xr_getR dX8_addAlone_44 fl_X8_12 L_26 rfl ?_
      refine xr_iload_n dX8_addAlone_47 rfl ?_
      refine xr_cvV (As := [xi v2]) dX8_addAlone_48 mi_X5_putName ml_X8_106 se_X5_putName L_27 rfl rfl rfl (Nat.le_of_ble_eq_true rfl) h (fun m10 h => ?_)
      refine xr_aload_n dX8_addAlone_51 rfl ?_
      refine xr_getR dX8_addAlone_52 fl_X8_12 L_26 rfl ?_
      refine xr_iload_n dX8_addAlone_55 rfl ?_
      refine xr_iload_n dX8_addAlone_56 rfl ?_
      refine xr_cvV (As := [xi v1, xi (μ 30 v2)]) dX8_addAlone_57 mi_X5_keep ml_X8_103 se_X5_keep L_27 rfl rfl rfl (Nat.le_of_ble_eq_true rfl) h (fun m12 h => ?_)
      exact xr_ret dX8_addAlone_60 rfl ⟨rfl, rfl, h⟩
set_option maxRecDepth 20000 in
theorem E_X8_addJoined {G : xG} {l : Launch} {d : Nat} {P : xMem → Prop} {v1 v2 v3 v4 : Int} {μ : xMem} (h : ((0 ≤ v2 ∧ v2 < 7922) ∧ ((0 ≤ v4 ∧ v4 < 7922) ∧ (iR ((μ 29 v2) * (μ 29 v4)) ∧ (((μ 29 v2) * (μ 29 v4)) ≤ 0 → P μ) ∧ (0 < ((μ 29 v2) * (μ 29 v4)) → CI G l d mX5_offer [xr G 27, xi v1, xi ((μ 29 v2) * (μ 29 v4)), xi ((μ 30 v2) + (μ 30 v4))] μ (fun r6 m7 => ((r6 = 0 → P m7) ∧ (r6 ≠ 0 → CV G l d mX5_putName [xr G 27, xi v2] m7 (fun m11 => CV G l d mX5_putLink [xr G 27, xi v3] m11 (fun m13 => CV G l d mX5_putName [xr G 27, xi v4] m13 (fun m15 => CV G l d mX5_keep [xr G 27, xi v1, xi ((μ 30 v2) + (μ 30 v4))] m15 (fun m17 => P m17)))))))))))) : CV G l (d + 1) mX8_addJoined [xr G 26, xi v1, xi v2, xi v3, xi v4] μ P := by
  refine CC.ofRR (ll := [some (xr G 26), some (xi v1), some (xi v2), some (xi v3), some (xi v4), none, none]) (by decide +kernel) (Nat.le_of_ble_eq_true rfl) rfl (fun h => by cases h) ?_
  refine xr_aload_n dX8_addJoined_0 rfl ?_
  refine xr_getR dX8_addJoined_1 fl_X8_12 L_26 rfl ?_
  refine xr_getR dX8_addJoined_4 fl_X8_71 L_27 rfl ?_
  refine xr_iload_n dX8_addJoined_7 rfl ?_
  obtain ⟨q1, h⟩ := h
  refine xr_iaload' (v := μ 29 v2) dX8_addJoined_8 L_29 rfl (by decide) q1 rfl ?_
  refine xr_aload_n dX8_addJoined_9 rfl ?_
  refine xr_getR dX8_addJoined_10 fl_X8_12 L_26 rfl ?_
  refine xr_getR dX8_addJoined_13 fl_X8_71 L_27 rfl ?_
  refine xr_iload dX8_addJoined_16 rfl ?_
  obtain ⟨q2, h⟩ := h
  refine xr_iaload' (v := μ 29 v4) dX8_addJoined_18 L_29 rfl (by decide) q2 rfl ?_
  refine xr_imul dX8_addJoined_19 ?_
  refine xr_istore' (ll' := [some (xr G 26), some (xi v1), some (xi v2), some (xi v3), some (xi v4), some (xi ((μ 29 v2) * (μ 29 v4))), none]) dX8_addJoined_20 (by decide) rfl rfl ?_
  refine xr_aload_n dX8_addJoined_22 rfl ?_
  refine xr_getR dX8_addJoined_23 fl_X8_12 L_26 rfl ?_
  refine xr_getR dX8_addJoined_26 fl_X8_75 L_27 rfl ?_
  refine xr_iload_n dX8_addJoined_29 rfl ?_
  refine xr_iaload' (v := μ 30 v2) dX8_addJoined_30 L_30 rfl (by decide) q1 rfl ?_
  refine xr_aload_n dX8_addJoined_31 rfl ?_
  refine xr_getR dX8_addJoined_32 fl_X8_12 L_26 rfl ?_
  refine xr_getR dX8_addJoined_35 fl_X8_75 L_27 rfl ?_
  refine xr_iload dX8_addJoined_38 rfl ?_
  refine xr_iaload' (v := μ 30 v4) dX8_addJoined_40 L_30 rfl (by decide) q2 rfl ?_
  refine xr_iadd dX8_addJoined_41 ?_
  refine xr_istore' (ll' := [some (xr G 26), some (xi v1), some (xi v2), some (xi v3), some (xi v4), some (xi ((μ 29 v2) * (μ 29 v4))), some (xi ((μ 30 v2) + (μ 30 v4)))]) dX8_addJoined_42 (by decide) rfl rfl ?_
  refine xr_iload dX8_addJoined_44 rfl ?_
  obtain ⟨q3, hT4, hF5⟩ := h
  refine xr_if_le (tgt := 99) dX8_addJoined_46 (by decide) q3  (fun c => ?_) (fun c => ?_)
  · have h := hT4 c
    exact xr_ret dX8_addJoined_99 rfl ⟨rfl, rfl, h⟩
  · have h := hF5 (Int.not_le.mp c)
    refine xr_aload_n dX8_addJoined_49 rfl ?_
    refine xr_getR dX8_addJoined_50 fl_X8_12 L_26 rfl ?_
    refine xr_iload_n dX8_addJoined_53 rfl ?_
    refine xr_iload dX8_addJoined_54 rfl ?_
    refine xr_iload dX8_addJoined_56 rfl ?_
    refine xr_cvI (As := [xi v1, xi ((μ 29 v2) * (μ 29 v4)), xi ((μ 30 v2) + (μ 30 v4))]) dX8_addJoined_58 mi_X5_offer ml_X8_90 se_X5_offer L_27 rfl rfl rfl (Nat.le_of_ble_eq_true rfl) h (fun r6 m7 hr6 h => ?_)
    obtain ⟨hT8, hF9⟩ := h
    refine xr_if_eq (tgt := 99) dX8_addJoined_61 (by decide) hr6  (fun c => ?_) (fun c => ?_)
    · have h := hT8 c
      exact xr_ret dX8_addJoined_99 rfl ⟨rfl, rfl, h⟩
    · have h := hF9 c
      refine xr_aload_n dX8_addJoined_64 rfl ?_
      refine xr_getR dX8_addJoined_65 fl_X8_12 L_26 rfl ?_
      refine xr_iload_n dX8_addJoined_68 rfl ?_
      refine xr_cvV (As := [xi v2]) dX8_addJoined_69 mi_X5_putName ml_X8_106 se_X5_putName L_27 rfl rfl rfl (Nat.le_of_ble_eq_true rfl) h (fun m11 h => ?_)
      refine xr_aload_n dX8_addJoined_72 rfl ?_
      refine xr_getR dX8_addJoined_73 fl_X8_12 L_26 rfl ?_
      refine xr_iload_n dX8_addJoined_76 rfl ?_
      refine xr_cvV (As := [xi v3]) dX8_addJoined_77 mi_X5_putLink ml_X8_97 se_X5_putLink L_27 rfl rfl rfl (Nat.le_of_ble_eq_true rfl) h (fun m13 h => ?_)
      refine xr_aload_n dX8_addJoined_80 rfl ?_
      refine xr_getR dX8_addJoined_81 fl_X8_12 L_26 rfl ?_
      refine xr_iload dX8_addJoined_84 rfl ?_
      refine xr_cvV (As := [xi v4]) dX8_addJoined_86 mi_X5_putName ml_X8_106 se_X5_putName L_27 rfl rfl rfl (Nat.le_of_ble_eq_true rfl) h (fun m15 h => ?_)
      refine xr_aload_n dX8_addJoined_89 rfl ?_
      refine xr_getR dX8_addJoined_90 fl_X8_12 L_26 rfl ?_
      refine xr_iload_n dX8_addJoined_93 rfl ?_
      refine xr_iload dX8_addJoined_94 rfl ?_
      refine xr_cvV (As := [xi v1, xi ((μ 30 v2) + (μ 30 v4))]) dX8_addJoined_96 mi_X5_keep ml_X8_103 se_X5_keep L_27 rfl rfl rfl (Nat.le_of_ble_eq_true rfl) h (fun m17 h => ?_)
      exact xr_ret dX8_addJoined_99 rfl ⟨rfl, rfl, h⟩
theorem dX8_pieceOf_279 : decode cX8_pieceOf 279 = .ok (.iload_n 2, 1) := by decide +kernel
theorem dX8_pieceOf_280 : decode cX8_pieceOf 280 = .ok (.iload_n 3, 1) := by decide +kernel
theorem dX8_pieceOf_281 : decode cX8_pieceOf 281 = .ok (.iload 4, 2) := by decide +kernel
theorem dX8_pieceOf_283 : decode cX8_pieceOf 283 = .ok (.iload 5, 2) := by decide +kernel
theorem dX8_pieceOf_285 : decode cX8_pieceOf 285 = .ok (.bipush 8, 2) := by decide +kernel
theorem dX8_pieceOf_287 : decode cX8_pieceOf 287 = .ok (.iload 6, 2) := by decide +kernel
theorem dX8_pieceOf_289 : decode cX8_pieceOf 289 = .ok (.invokevirtual 146, 3) := by decide +kernel
theorem dX8_pieceOf_292 : decode cX8_pieceOf 292 = .ok (.iload 7, 2) := by decide +kernel
theorem dX8_pieceOf_294 : decode cX8_pieceOf 294 = .ok (.ireturn, 1) := by decide +kernel
def K_X8_pieceOf_180 (G : xG) (l : Launch) (d : Nat) (P : Int → xMem → Prop) (v1 v2 v3 v4 v5 v6 v7 v8 v9 : Int) (μ : xMem) : Prop := RR G l d 0 0 false mX8_pieceOf (qI P) 180 [some (xr G 26), some (xi v1), some (xi v2), some (xi v3), some (xi v4), some (xi v5), some (xi v6), some (xi v7), some (xi v8), some (xi v9)] [] LAY μ 0 0
def K_X8_pieceOf_218 (G : xG) (l : Launch) (d : Nat) (P : Int → xMem → Prop) (v1 v2 v3 v4 v5 v6 v7 : Int) (μ : xMem) : Prop := RR G l d 0 0 false mX8_pieceOf (qI P) 218 [some (xr G 26), some (xi v1), some (xi v2), some (xi v3), some (xi v4), some (xi v5), some (xi v6), some (xi v7), none, none] [] LAY μ 0 0
def K_X8_pieceOf_255 (G : xG) (l : Launch) (d : Nat) (P : Int → xMem → Prop) (v1 v2 v3 v4 v5 v6 v7 : Int) (μ : xMem) : Prop := RR G l d 0 0 false mX8_pieceOf (qI P) 255 [some (xr G 26), some (xi v1), some (xi v2), some (xi v3), some (xi v4), some (xi v5), some (xi v6), some (xi v7), none, none] [] LAY μ 0 0
set_option maxRecDepth 20000 in
theorem E_X8_pieceOf {G : xG} {l : Launch} {d : Nat} {P : Int → xMem → Prop} {v1 v2 v3 v4 v5 v6 : Int} {μ : xMem} (h : (iR v2 ∧ iR v3 ∧ (v3 < v2 → P 7921 μ) ∧ (v2 ≤ v3 → (iR v4 ∧ iR v5 ∧ (v5 ≤ v4 → P 7921 μ) ∧ (v4 < v5 → (iR v6 ∧ (v6 ≤ 40 → CI G l d mX5_placeOf [xr G 27, xi (2 + v1), xi v2, xi v3, xi v4, xi v5] μ (fun r12 m13 => CI G l d mX5_isOpen [xr G 27, xi r12] m13 (fun r14 m15 => ((r14 = 0 → CV G l d mX5_open [xr G 27, xi r12] m15 (fun m19 => CV G l d mX9_aimAt [xr G 33, xi v1, xi v4, xi v5, xi v5, xi v5] m19 (fun m21 => ((v2 ≠ v3 → CV G l d mX8_addSigned [xr G 26, xi r12, xi v2, xi (v2 + 1), xi v3] m21 (fun m25 => CV G l d mX8_addSigned [xr G 26, xi r12, xi v3, xi v2, xi (v3 - 1)] m25 (fun m27 => CI G l d mX9_isSign [xr G 33, xi v2, xi 4] m27 (fun r28 m29 => ((r28 = 0 → K_X8_pieceOf_180 G l (d + 1) P v1 v2 v3 v4 v5 v6 r12 ((m27 33 8) - v5) ((m27 33 8) - v4) m29) ∧ (r28 ≠ 0 → CI G l d mX8_rowOf [xr G 26, xi (1 - v1), xi (v2 + 1), xi v3, xi ((m27 33 8) - v5), xi ((m27 33 8) - v4), xi (v6 + 1)] m29 (fun r32 m33 => CV G l d mX8_addTurned [xr G 26, xi r12, xi v2, xi r32] m33 (fun m35 => K_X8_pieceOf_180 G l (d + 1) P v1 v2 v3 v4 v5 v6 r12 ((m27 33 8) - v5) ((m27 33 8) - v4) m35)))))))) ∧ (v2 = v3 → CV G l d mX8_addPlain [xr G 26, xi r12, xi v2] m21 (fun m37 => P r12 m37)))))) ∧ (r14 ≠ 0 → P r12 m15))))) ∧ (40 < v6 → P 7921 μ))))))) : CI G l (d + 1) mX8_pieceOf [xr G 26, xi v1, xi v2, xi v3, xi v4, xi v5, xi v6] μ P := by
  refine CC.ofRR (ll := [some (xr G 26), some (xi v1), some (xi v2), some (xi v3), some (xi v4), some (xi v5), some (xi v6), none, none, none]) (by decide +kernel) (Nat.le_of_ble_eq_true rfl) rfl (fun h => by cases h) ?_
  refine xr_iload_n dX8_pieceOf_0 rfl ?_
  refine xr_iload_n dX8_pieceOf_1 rfl ?_
  obtain ⟨q1, q2, hT3, hF4⟩ := h
  refine xr_icmp_gt (tgt := 19) dX8_pieceOf_2 (by decide) q1 q2 (fun c => ?_) (fun c => ?_)
  · have h := hT3 c
    refine xr_sipush dX8_pieceOf_19 (by decide) ?_
    exact xr_iret dX8_pieceOf_22 rfl ⟨rfl, _, rfl, (by decide), h⟩
  · have h := hF4 (Int.not_lt.mp c)
    refine xr_iload dX8_pieceOf_5 rfl ?_
    refine xr_iload dX8_pieceOf_7 rfl ?_
    obtain ⟨q5, q6, hT7, hF8⟩ := h
    refine xr_icmp_ge (tgt := 19) dX8_pieceOf_9 (by decide) q5 q6 (fun c => ?_) (fun c => ?_)
    · have h := hT7 c
      refine xr_sipush dX8_pieceOf_19 (by decide) ?_
      exact xr_iret dX8_pieceOf_22 rfl ⟨rfl, _, rfl, (by decide), h⟩
    · have h := hF8 (Int.not_le.mp c)
      refine xr_iload dX8_pieceOf_12 rfl ?_
      refine xr_bipush dX8_pieceOf_14 (by decide) ?_
      obtain ⟨q9, hT10, hF11⟩ := h
      refine xr_icmp_le (tgt := 23) dX8_pieceOf_16 (by decide) q9 (by decide) (fun c => ?_) (fun c => ?_)
      · have h := hT10 c
        refine xr_aload_n dX8_pieceOf_23 rfl ?_
        refine xr_getR dX8_pieceOf_24 fl_X8_12 L_26 rfl ?_
        refine xr_iconst dX8_pieceOf_27 ?_
        refine xr_iload_n dX8_pieceOf_28 rfl ?_
        refine xr_iadd dX8_pieceOf_29 ?_
        refine xr_iload_n dX8_pieceOf_30 rfl ?_
        refine xr_iload_n dX8_pieceOf_31 rfl ?_
        refine xr_iload dX8_pieceOf_32 rfl ?_
        refine xr_iload dX8_pieceOf_34 rfl ?_
        refine xr_cvI (As := [xi (2 + v1), xi v2, xi v3, xi v4, xi v5]) dX8_pieceOf_36 mi_X5_placeOf ml_X8_109 se_X5_placeOf L_27 rfl rfl rfl (Nat.le_of_ble_eq_true rfl) h (fun r12 m13 hr12 h => ?_)
        refine xr_istore' (ll' := [some (xr G 26), some (xi v1), some (xi v2), some (xi v3), some (xi v4), some (xi v5), some (xi v6), some (xi r12), none, none]) dX8_pieceOf_39 (by decide) rfl rfl ?_
        refine xr_aload_n dX8_pieceOf_41 rfl ?_
        refine xr_getR dX8_pieceOf_42 fl_X8_12 L_26 rfl ?_
        refine xr_iload dX8_pieceOf_45 rfl ?_
        refine xr_cvI (As := [xi r12]) dX8_pieceOf_47 mi_X5_isOpen ml_X8_113 se_X5_isOpen L_27 rfl rfl rfl (Nat.le_of_ble_eq_true rfl) h (fun r14 m15 hr14 h => ?_)
        obtain ⟨hT16, hF17⟩ := h
        refine xr_if_eq (tgt := 56) dX8_pieceOf_50 (by decide) hr14  (fun c => ?_) (fun c => ?_)
        · have h := hT16 c
          refine xr_aload_n dX8_pieceOf_56 rfl ?_
          refine xr_getR dX8_pieceOf_57 fl_X8_12 L_26 rfl ?_
          refine xr_iload dX8_pieceOf_60 rfl ?_
          refine xr_cvV (As := [xi r12]) dX8_pieceOf_62 mi_X5_open ml_X8_116 se_X5_open L_27 rfl rfl rfl (Nat.le_of_ble_eq_true rfl) h (fun m19 h => ?_)
          refine xr_aload_n dX8_pieceOf_65 rfl ?_
          refine xr_getR dX8_pieceOf_66 fl_X8_23 L_26 rfl ?_
          refine xr_iload_n dX8_pieceOf_69 rfl ?_
          refine xr_iload dX8_pieceOf_70 rfl ?_
          refine xr_iload dX8_pieceOf_72 rfl ?_
          refine xr_iload dX8_pieceOf_74 rfl ?_
          refine xr_iload dX8_pieceOf_76 rfl ?_
          refine xr_cvV (As := [xi v1, xi v4, xi v5, xi v5, xi v5]) dX8_pieceOf_78 mi_X9_aimAt ml_X8_132 se_X9_aimAt L_33 rfl rfl rfl (Nat.le_of_ble_eq_true rfl) h (fun m21 h => ?_)
          refine xr_iload_n dX8_pieceOf_81 rfl ?_
          refine xr_iload_n dX8_pieceOf_82 rfl ?_
          obtain ⟨hT22, hF23⟩ := h
          refine xr_icmp_ne (tgt := 96) dX8_pieceOf_83 (by decide) q1 q2 (fun c => ?_) (fun c => ?_)
          · have h := hT22 c
            refine xr_aload_n dX8_pieceOf_96 rfl ?_
            refine xr_iload dX8_pieceOf_97 rfl ?_
            refine xr_iload_n dX8_pieceOf_99 rfl ?_
            refine xr_iload_n dX8_pieceOf_100 rfl ?_
            refine xr_iconst dX8_pieceOf_101 ?_
            refine xr_iadd dX8_pieceOf_102 ?_
            refine xr_iload_n dX8_pieceOf_103 rfl ?_
            refine xr_cvV (As := [xi r12, xi v2, xi (v2 + 1), xi v3]) dX8_pieceOf_104 mi_X8_addSigned ml_X8_139 se_X8_addSigned L_26 rfl rfl rfl (Nat.le_of_ble_eq_true rfl) h (fun m25 h => ?_)
            refine xr_aload_n dX8_pieceOf_107 rfl ?_
            refine xr_iload dX8_pieceOf_108 rfl ?_
            refine xr_iload_n dX8_pieceOf_110 rfl ?_
            refine xr_iload_n dX8_pieceOf_111 rfl ?_
            refine xr_iload_n dX8_pieceOf_112 rfl ?_
            refine xr_iconst dX8_pieceOf_113 ?_
            refine xr_isub dX8_pieceOf_114 ?_
            refine xr_cvV (As := [xi r12, xi v3, xi v2, xi (v3 - 1)]) dX8_pieceOf_115 mi_X8_addSigned ml_X8_139 se_X8_addSigned L_26 rfl rfl rfl (Nat.le_of_ble_eq_true rfl) h (fun m27 h => ?_)
            refine xr_aload_n dX8_pieceOf_118 rfl ?_
            refine xr_getR dX8_pieceOf_119 fl_X8_23 L_26 rfl ?_
            refine xr_getI' (v := m27 33 8) dX8_pieceOf_122 fl_X8_50 L_33 rfl rfl rfl ?_
            refine xr_iload dX8_pieceOf_125 rfl ?_
            refine xr_isub dX8_pieceOf_127 ?_
            refine xr_istore' (ll' := [some (xr G 26), some (xi v1), some (xi v2), some (xi v3), some (xi v4), some (xi v5), some (xi v6), some (xi r12), some (xi ((m27 33 8) - v5)), none]) dX8_pieceOf_128 (by decide) rfl rfl ?_
            refine xr_aload_n dX8_pieceOf_130 rfl ?_
            refine xr_getR dX8_pieceOf_131 fl_X8_23 L_26 rfl ?_
            refine xr_getI' (v := m27 33 8) dX8_pieceOf_134 fl_X8_50 L_33 rfl rfl rfl ?_
            refine xr_iload dX8_pieceOf_137 rfl ?_
            refine xr_isub dX8_pieceOf_139 ?_
            refine xr_istore' (ll' := [some (xr G 26), some (xi v1), some (xi v2), some (xi v3), some (xi v4), some (xi v5), some (xi v6), some (xi r12), some (xi ((m27 33 8) - v5)), some (xi ((m27 33 8) - v4))]) dX8_pieceOf_140 (by decide) rfl rfl ?_
            refine xr_aload_n dX8_pieceOf_142 rfl ?_
            refine xr_getR dX8_pieceOf_143 fl_X8_23 L_26 rfl ?_
            refine xr_iload_n dX8_pieceOf_146 rfl ?_
            refine xr_iconst dX8_pieceOf_147 ?_
            refine xr_cvI (As := [xi v2, xi 4]) dX8_pieceOf_148 mi_X9_isSign ml_X8_61 se_X9_isSign L_33 rfl rfl rfl (Nat.le_of_ble_eq_true rfl) h (fun r28 m29 hr28 h => ?_)
            obtain ⟨hT30, hF31⟩ := h
            refine xr_if_eq (tgt := 180) dX8_pieceOf_151 (by decide) hr28  (fun c => ?_) (fun c => ?_)
            · have h := hT30 c
              exact h
            · have h := hF31 c
              refine xr_aload_n dX8_pieceOf_154 rfl ?_
              refine xr_iload dX8_pieceOf_155 rfl ?_
              refine xr_iload_n dX8_pieceOf_157 rfl ?_
              refine xr_aload_n dX8_pieceOf_158 rfl ?_
              refine xr_iconst dX8_pieceOf_159 ?_
              refine xr_iload_n dX8_pieceOf_160 rfl ?_
              refine xr_isub dX8_pieceOf_161 ?_
              refine xr_iload_n dX8_pieceOf_162 rfl ?_
              refine xr_iconst dX8_pieceOf_163 ?_
              refine xr_iadd dX8_pieceOf_164 ?_
              refine xr_iload_n dX8_pieceOf_165 rfl ?_
              refine xr_iload dX8_pieceOf_166 rfl ?_
              refine xr_iload dX8_pieceOf_168 rfl ?_
              refine xr_iload dX8_pieceOf_170 rfl ?_
              refine xr_iconst dX8_pieceOf_172 ?_
              refine xr_iadd dX8_pieceOf_173 ?_
              refine xr_cvI (As := [xi (1 - v1), xi (v2 + 1), xi v3, xi ((m27 33 8) - v5), xi ((m27 33 8) - v4), xi (v6 + 1)]) dX8_pieceOf_174 mi_X8_rowOf ml_X8_53 se_X8_rowOf L_26 rfl rfl rfl (Nat.le_of_ble_eq_true rfl) h (fun r32 m33 hr32 h => ?_)
              refine xr_cvV (As := [xi r12, xi v2, xi r32]) dX8_pieceOf_177 mi_X8_addTurned ml_X8_142 se_X8_addTurned L_26 rfl rfl rfl (Nat.le_of_ble_eq_true rfl) h (fun m35 h => ?_)
              exact h
          · have h := hF23 c
            refine xr_aload_n dX8_pieceOf_86 rfl ?_
            refine xr_iload dX8_pieceOf_87 rfl ?_
            refine xr_iload_n dX8_pieceOf_89 rfl ?_
            refine xr_cvV (As := [xi r12, xi v2]) dX8_pieceOf_90 mi_X8_addPlain ml_X8_136 se_X8_addPlain L_26 rfl rfl rfl (Nat.le_of_ble_eq_true rfl) h (fun m37 h => ?_)
            refine xr_iload dX8_pieceOf_93 rfl ?_
            exact xr_iret dX8_pieceOf_95 rfl ⟨rfl, _, rfl, hr12, h⟩
        · have h := hF17 c
          refine xr_iload dX8_pieceOf_53 rfl ?_
          exact xr_iret dX8_pieceOf_55 rfl ⟨rfl, _, rfl, hr12, h⟩
      · have h := hF11 (Int.not_le.mp c)
        refine xr_sipush dX8_pieceOf_19 (by decide) ?_
        exact xr_iret dX8_pieceOf_22 rfl ⟨rfl, _, rfl, (by decide), h⟩
set_option maxRecDepth 20000 in
theorem B_X8_pieceOf_180 {G : xG} {l : Launch} {d : Nat} {P : Int → xMem → Prop} {v1 v2 v3 v4 v5 v6 v7 v8 v9 : Int} {μ : xMem} (h : CI G l d mX9_isSign [xr G 33, xi v3, xi 4] μ (fun r1 m2 => ((r1 = 0 → K_X8_pieceOf_218 G l (d + 1) P v1 v2 v3 v4 v5 v6 v7 m2) ∧ (r1 ≠ 0 → CI G l d mX8_rowOf [xr G 26, xi (1 - v1), xi v2, xi (v3 - 1), xi v8, xi v9, xi (v6 + 1)] m2 (fun r5 m6 => CV G l d mX8_addTurned [xr G 26, xi v7, xi v3, xi r5] m6 (fun m8 => K_X8_pieceOf_218 G l (d + 1) P v1 v2 v3 v4 v5 v6 v7 m8)))))) : K_X8_pieceOf_180 G l (d + 1) P v1 v2 v3 v4 v5 v6 v7 v8 v9 μ := by
  unfold K_X8_pieceOf_180
  refine xr_aload_n dX8_pieceOf_180 rfl ?_
  refine xr_getR dX8_pieceOf_181 fl_X8_23 L_26 rfl ?_
  refine xr_iload_n dX8_pieceOf_184 rfl ?_
  refine xr_iconst dX8_pieceOf_185 ?_
  refine xr_cvI (As := [xi v3, xi 4]) dX8_pieceOf_186 mi_X9_isSign ml_X8_61 se_X9_isSign L_33 rfl rfl rfl (Nat.le_of_ble_eq_true rfl) h (fun r1 m2 hr1 h => ?_)
  obtain ⟨hT3, hF4⟩ := h
  refine xr_if_eq (tgt := 218) dX8_pieceOf_189 (by decide) hr1  (fun c => ?_) (fun c => ?_)
  · have h := hT3 c
    refine xr_wk (ll' := [some (xr G 26), some (xi v1), some (xi v2), some (xi v3), some (xi v4), some (xi v5), some (xi v6), some (xi v7), none, none]) ⟨rfl, ⟨rfl, ⟨rfl, ⟨rfl, ⟨rfl, ⟨rfl, ⟨rfl, ⟨rfl, trivial⟩⟩⟩⟩⟩⟩⟩⟩ ?_
    exact h
  · have h := hF4 c
    refine xr_aload_n dX8_pieceOf_192 rfl ?_
    refine xr_iload dX8_pieceOf_193 rfl ?_
    refine xr_iload_n dX8_pieceOf_195 rfl ?_
    refine xr_aload_n dX8_pieceOf_196 rfl ?_
    refine xr_iconst dX8_pieceOf_197 ?_
    refine xr_iload_n dX8_pieceOf_198 rfl ?_
    refine xr_isub dX8_pieceOf_199 ?_
    refine xr_iload_n dX8_pieceOf_200 rfl ?_
    refine xr_iload_n dX8_pieceOf_201 rfl ?_
    refine xr_iconst dX8_pieceOf_202 ?_
    refine xr_isub dX8_pieceOf_203 ?_
    refine xr_iload dX8_pieceOf_204 rfl ?_
    refine xr_iload dX8_pieceOf_206 rfl ?_
    refine xr_iload dX8_pieceOf_208 rfl ?_
    refine xr_iconst dX8_pieceOf_210 ?_
    refine xr_iadd dX8_pieceOf_211 ?_
    refine xr_cvI (As := [xi (1 - v1), xi v2, xi (v3 - 1), xi v8, xi v9, xi (v6 + 1)]) dX8_pieceOf_212 mi_X8_rowOf ml_X8_53 se_X8_rowOf L_26 rfl rfl rfl (Nat.le_of_ble_eq_true rfl) h (fun r5 m6 hr5 h => ?_)
    refine xr_cvV (As := [xi v7, xi v3, xi r5]) dX8_pieceOf_215 mi_X8_addTurned ml_X8_142 se_X8_addTurned L_26 rfl rfl rfl (Nat.le_of_ble_eq_true rfl) h (fun m8 h => ?_)
    refine xr_wk (ll' := [some (xr G 26), some (xi v1), some (xi v2), some (xi v3), some (xi v4), some (xi v5), some (xi v6), some (xi v7), none, none]) ⟨rfl, ⟨rfl, ⟨rfl, ⟨rfl, ⟨rfl, ⟨rfl, ⟨rfl, ⟨rfl, trivial⟩⟩⟩⟩⟩⟩⟩⟩ ?_
    exact h
set_option maxRecDepth 20000 in
theorem B_X8_pieceOf_218 {G : xG} {l : Launch} {d : Nat} {P : Int → xMem → Prop} {v1 v2 v3 v4 v5 v6 v7 : Int} {μ : xMem} (h : (iR (v3 - v2) ∧ ((v3 - v2) < 2 → K_X8_pieceOf_255 G l (d + 1) P v1 v2 v3 v4 v5 v6 v7 μ) ∧ (2 ≤ (v3 - v2) → CI G l d mX9_isSign [xr G 33, xi (v3 - 1), xi 7] μ (fun r4 m5 => ((r4 = 0 → K_X8_pieceOf_255 G l (d + 1) P v1 v2 v3 v4 v5 v6 v7 m5) ∧ (r4 ≠ 0 → CV G l d mX8_addPutIn [xr G 26, xi v1, xi v2, xi v3, xi v4, xi v5, xi 7, xi v6] m5 (fun m9 => K_X8_pieceOf_255 G l (d + 1) P v1 v2 v3 v4 v5 v6 v7 m9))))))) : K_X8_pieceOf_218 G l (d + 1) P v1 v2 v3 v4 v5 v6 v7 μ := by
  unfold K_X8_pieceOf_218
  refine xr_iload_n dX8_pieceOf_218 rfl ?_
  refine xr_iload_n dX8_pieceOf_219 rfl ?_
  refine xr_isub dX8_pieceOf_220 ?_
  refine xr_iconst dX8_pieceOf_221 ?_
  obtain ⟨q1, hT2, hF3⟩ := h
  refine xr_icmp_lt (tgt := 255) dX8_pieceOf_222 (by decide) q1 (by decide) (fun c => ?_) (fun c => ?_)
  · have h := hT2 c
    exact h
  · have h := hF3 (Int.not_lt.mp c)
    refine xr_aload_n dX8_pieceOf_225 rfl ?_
    refine xr_getR dX8_pieceOf_226 fl_X8_23 L_26 rfl ?_
    refine xr_iload_n dX8_pieceOf_229 rfl ?_
    refine xr_iconst dX8_pieceOf_230 ?_
    refine xr_isub dX8_pieceOf_231 ?_
    refine xr_bipush dX8_pieceOf_232 (by decide) ?_
    refine xr_cvI (As := [xi (v3 - 1), xi 7]) dX8_pieceOf_234 mi_X9_isSign ml_X8_61 se_X9_isSign L_33 rfl rfl rfl (Nat.le_of_ble_eq_true rfl) h (fun r4 m5 hr4 h => ?_)
    obtain ⟨hT6, hF7⟩ := h
    refine xr_if_eq (tgt := 255) dX8_pieceOf_237 (by decide) hr4  (fun c => ?_) (fun c => ?_)
    · have h := hT6 c
      exact h
    · have h := hF7 c
      refine xr_aload_n dX8_pieceOf_240 rfl ?_
      refine xr_iload_n dX8_pieceOf_241 rfl ?_
      refine xr_iload_n dX8_pieceOf_242 rfl ?_
      refine xr_iload_n dX8_pieceOf_243 rfl ?_
      refine xr_iload dX8_pieceOf_244 rfl ?_
      refine xr_iload dX8_pieceOf_246 rfl ?_
      refine xr_bipush dX8_pieceOf_248 (by decide) ?_
      refine xr_iload dX8_pieceOf_250 rfl ?_
      refine xr_cvV (As := [xi v1, xi v2, xi v3, xi v4, xi v5, xi 7, xi v6]) dX8_pieceOf_252 mi_X8_addPutIn ml_X8_146 se_X8_addPutIn L_26 rfl rfl rfl (Nat.le_of_ble_eq_true rfl) h (fun m9 h => ?_)
      exact h
set_option maxRecDepth 20000 in
theorem B_X8_pieceOf_255 {G : xG} {l : Launch} {d : Nat} {P : Int → xMem → Prop} {v1 v2 v3 v4 v5 v6 v7 : Int} {μ : xMem} (h : (iR (v3 - v2) ∧ ((v3 - v2) < 2 → (iR v7 ∧ P v7 μ)) ∧ (2 ≤ (v3 - v2) → CI G l d mX9_isSign [xr G 33, xi (v2 + 1), xi 8] μ (fun r5 m6 => ((r5 = 0 → (iR v7 ∧ P v7 m6)) ∧ (r5 ≠ 0 → CV G l d mX8_addPutIn [xr G 26, xi v1, xi v2, xi v3, xi v4, xi v5, xi 8, xi v6] m6 (fun m11 => (iR v7 ∧ P v7 m11)))))))) : K_X8_pieceOf_255 G l (d + 1) P v1 v2 v3 v4 v5 v6 v7 μ := by
  unfold K_X8_pieceOf_255
  refine xr_iload_n dX8_pieceOf_255 rfl ?_
  refine xr_iload_n dX8_pieceOf_256 rfl ?_
  refine xr_isub dX8_pieceOf_257 ?_
  refine xr_iconst dX8_pieceOf_258 ?_
  obtain ⟨q1, hT2, hF3⟩ := h
  refine xr_icmp_lt (tgt := 292) dX8_pieceOf_259 (by decide) q1 (by decide) (fun c => ?_) (fun c => ?_)
  · have h := hT2 c
    refine xr_iload dX8_pieceOf_292 rfl ?_
    obtain ⟨q4, h⟩ := h
    exact xr_iret dX8_pieceOf_294 rfl ⟨rfl, _, rfl, q4, h⟩
  · have h := hF3 (Int.not_lt.mp c)
    refine xr_aload_n dX8_pieceOf_262 rfl ?_
    refine xr_getR dX8_pieceOf_263 fl_X8_23 L_26 rfl ?_
    refine xr_iload_n dX8_pieceOf_266 rfl ?_
    refine xr_iconst dX8_pieceOf_267 ?_
    refine xr_iadd dX8_pieceOf_268 ?_
    refine xr_bipush dX8_pieceOf_269 (by decide) ?_
    refine xr_cvI (As := [xi (v2 + 1), xi 8]) dX8_pieceOf_271 mi_X9_isSign ml_X8_61 se_X9_isSign L_33 rfl rfl rfl (Nat.le_of_ble_eq_true rfl) h (fun r5 m6 hr5 h => ?_)
    obtain ⟨hT7, hF8⟩ := h
    refine xr_if_eq (tgt := 292) dX8_pieceOf_274 (by decide) hr5  (fun c => ?_) (fun c => ?_)
    · have h := hT7 c
      refine xr_iload dX8_pieceOf_292 rfl ?_
      obtain ⟨q9, h⟩ := h
      exact xr_iret dX8_pieceOf_294 rfl ⟨rfl, _, rfl, q9, h⟩
    · have h := hF8 c
      refine xr_aload_n dX8_pieceOf_277 rfl ?_
      refine xr_iload_n dX8_pieceOf_278 rfl ?_
      refine xr_iload_n dX8_pieceOf_279 rfl ?_
      refine xr_iload_n dX8_pieceOf_280 rfl ?_
      refine xr_iload dX8_pieceOf_281 rfl ?_
      refine xr_iload dX8_pieceOf_283 rfl ?_
      refine xr_bipush dX8_pieceOf_285 (by decide) ?_
      refine xr_iload dX8_pieceOf_287 rfl ?_
      refine xr_cvV (As := [xi v1, xi v2, xi v3, xi v4, xi v5, xi 8, xi v6]) dX8_pieceOf_289 mi_X8_addPutIn ml_X8_146 se_X8_addPutIn L_26 rfl rfl rfl (Nat.le_of_ble_eq_true rfl) h (fun m11 h => ?_)
      refine xr_iload dX8_pieceOf_292 rfl ?_
      obtain ⟨q12, h⟩ := h
      exact xr_iret dX8_pieceOf_294 rfl ⟨rfl, _, rfl, q12, h⟩
theorem dX8_addPlain_0 : decode cX8_addPlain 0 = .ok (.aload_n 0, 1) := by decide +kernel
theorem dX8_addPlain_1 : decode cX8_addPlain 1 = .ok (.getfield 23, 3) := by decide +kernel
theorem dX8_addPlain_4 : decode cX8_addPlain 4 = .ok (.iload_n 2, 1) := by decide +kernel
theorem dX8_addPlain_5 : decode cX8_addPlain 5 = .ok (.iconst 0, 1) := by decide +kernel
theorem dX8_addPlain_6 : decode cX8_addPlain 6 = .ok (.iconst 0, 1) := by decide +kernel
theorem dX8_addPlain_7 : decode cX8_addPlain 7 = .ok (.invokevirtual 150, 3) := by decide +kernel
theorem dX8_addPlain_10 : decode cX8_addPlain 10 = .ok (.ifCond .eq 35, 3) := by decide +kernel
theorem dX8_addPlain_13 : decode cX8_addPlain 13 = .ok (.aload_n 0, 1) := by decide +kernel
theorem dX8_addPlain_14 : decode cX8_addPlain 14 = .ok (.getfield 12, 3) := by decide +kernel
theorem dX8_addPlain_17 : decode cX8_addPlain 17 = .ok (.iload_n 1, 1) := by decide +kernel
theorem dX8_addPlain_18 : decode cX8_addPlain 18 = .ok (.iconst 1, 1) := by decide +kernel
theorem dX8_addPlain_19 : decode cX8_addPlain 19 = .ok (.iconst 2, 1) := by decide +kernel
theorem dX8_addPlain_20 : decode cX8_addPlain 20 = .ok (.invokevirtual 90, 3) := by decide +kernel
theorem dX8_addPlain_23 : decode cX8_addPlain 23 = .ok (.ifCond .eq 22, 3) := by decide +kernel
theorem dX8_addPlain_26 : decode cX8_addPlain 26 = .ok (.aload_n 0, 1) := by decide +kernel
theorem dX8_addPlain_27 : decode cX8_addPlain 27 = .ok (.getfield 12, 3) := by decide +kernel
theorem dX8_addPlain_30 : decode cX8_addPlain 30 = .ok (.bipush 28, 2) := by decide +kernel
theorem dX8_addPlain_32 : decode cX8_addPlain 32 = .ok (.iload_n 2, 1) := by decide +kernel
theorem dX8_addPlain_33 : decode cX8_addPlain 33 = .ok (.invokevirtual 94, 3) := by decide +kernel
theorem dX8_addPlain_36 : decode cX8_addPlain 36 = .ok (.aload_n 0, 1) := by decide +kernel
theorem dX8_addPlain_37 : decode cX8_addPlain 37 = .ok (.getfield 12, 3) := by decide +kernel
theorem dX8_addPlain_40 : decode cX8_addPlain 40 = .ok (.iload_n 1, 1) := by decide +kernel
theorem dX8_addPlain_41 : decode cX8_addPlain 41 = .ok (.iconst 2, 1) := by decide +kernel
theorem dX8_addPlain_42 : decode cX8_addPlain 42 = .ok (.invokevirtual 103, 3) := by decide +kernel
theorem dX8_addPlain_45 : decode cX8_addPlain 45 = .ok (.aload_n 0, 1) := by decide +kernel
theorem dX8_addPlain_46 : decode cX8_addPlain 46 = .ok (.getfield 23, 3) := by decide +kernel
theorem dX8_addPlain_49 : decode cX8_addPlain 49 = .ok (.iload_n 2, 1) := by decide +kernel
theorem dX8_addPlain_50 : decode cX8_addPlain 50 = .ok (.iconst 0, 1) := by decide +kernel
theorem dX8_addPlain_51 : decode cX8_addPlain 51 = .ok (.iconst 0, 1) := by decide +kernel
theorem dX8_addPlain_52 : decode cX8_addPlain 52 = .ok (.invokevirtual 153, 3) := by decide +kernel
theorem dX8_addPlain_55 : decode cX8_addPlain 55 = .ok (.istore_n 3, 1) := by decide +kernel
theorem dX8_addPlain_56 : decode cX8_addPlain 56 = .ok (.iload_n 3, 1) := by decide +kernel
theorem dX8_addPlain_57 : decode cX8_addPlain 57 = .ok (.ifCond .le 35, 3) := by decide +kernel
theorem dX8_addPlain_60 : decode cX8_addPlain 60 = .ok (.aload_n 0, 1) := by decide +kernel
theorem dX8_addPlain_61 : decode cX8_addPlain 61 = .ok (.getfield 12, 3) := by decide +kernel
theorem dX8_addPlain_64 : decode cX8_addPlain 64 = .ok (.iload_n 1, 1) := by decide +kernel
theorem dX8_addPlain_65 : decode cX8_addPlain 65 = .ok (.iload_n 3, 1) := by decide +kernel
theorem dX8_addPlain_66 : decode cX8_addPlain 66 = .ok (.iconst 1, 1) := by decide +kernel
theorem dX8_addPlain_67 : decode cX8_addPlain 67 = .ok (.invokevirtual 90, 3) := by decide +kernel
theorem dX8_addPlain_70 : decode cX8_addPlain 70 = .ok (.ifCond .eq 22, 3) := by decide +kernel
theorem dX8_addPlain_73 : decode cX8_addPlain 73 = .ok (.aload_n 0, 1) := by decide +kernel
theorem dX8_addPlain_74 : decode cX8_addPlain 74 = .ok (.getfield 12, 3) := by decide +kernel
theorem dX8_addPlain_77 : decode cX8_addPlain 77 = .ok (.bipush 29, 2) := by decide +kernel
theorem dX8_addPlain_79 : decode cX8_addPlain 79 = .ok (.iload_n 2, 1) := by decide +kernel
theorem dX8_addPlain_80 : decode cX8_addPlain 80 = .ok (.invokevirtual 94, 3) := by decide +kernel
theorem dX8_addPlain_83 : decode cX8_addPlain 83 = .ok (.aload_n 0, 1) := by decide +kernel
theorem dX8_addPlain_84 : decode cX8_addPlain 84 = .ok (.getfield 12, 3) := by decide +kernel
theorem dX8_addPlain_87 : decode cX8_addPlain 87 = .ok (.iload_n 1, 1) := by decide +kernel
theorem dX8_addPlain_88 : decode cX8_addPlain 88 = .ok (.iconst 1, 1) := by decide +kernel
theorem dX8_addPlain_89 : decode cX8_addPlain 89 = .ok (.invokevirtual 103, 3) := by decide +kernel
theorem dX8_addPlain_92 : decode cX8_addPlain 92 = .ok (.return_, 1) := by decide +kernel
def K_X8_addPlain_45 (G : xG) (l : Launch) (d : Nat) (P : xMem → Prop) (v1 v2 : Int) (μ : xMem) : Prop := RR G l d 0 0 false mX8_addPlain (qV P) 45 [some (xr G 26), some (xi v1), some (xi v2), none] [] LAY μ 0 0
set_option maxRecDepth 20000 in
theorem E_X8_addPlain {G : xG} {l : Launch} {d : Nat} {P : xMem → Prop} {v1 v2 : Int} {μ : xMem} (h : CI G l d mX9_isOwn [xr G 33, xi v2, xi 0, xi 0] μ (fun r1 m2 => ((r1 = 0 → K_X8_addPlain_45 G l (d + 1) P v1 v2 m2) ∧ (r1 ≠ 0 → CI G l d mX5_offer [xr G 27, xi v1, xi 1, xi 2] m2 (fun r5 m6 => ((r5 = 0 → K_X8_addPlain_45 G l (d + 1) P v1 v2 m6) ∧ (r5 ≠ 0 → CV G l d mX5_putWord [xr G 27, xi 28, xi v2] m6 (fun m10 => CV G l d mX5_keep [xr G 27, xi v1, xi 2] m10 (fun m12 => K_X8_addPlain_45 G l (d + 1) P v1 v2 m12))))))))) : CV G l (d + 1) mX8_addPlain [xr G 26, xi v1, xi v2] μ P := by
  refine CC.ofRR (ll := [some (xr G 26), some (xi v1), some (xi v2), none]) (by decide +kernel) (Nat.le_of_ble_eq_true rfl) rfl (fun h => by cases h) ?_
  refine xr_aload_n dX8_addPlain_0 rfl ?_
  refine xr_getR dX8_addPlain_1 fl_X8_23 L_26 rfl ?_
  refine xr_iload_n dX8_addPlain_4 rfl ?_
  refine xr_iconst dX8_addPlain_5 ?_
  refine xr_iconst dX8_addPlain_6 ?_
  refine xr_cvI (As := [xi v2, xi 0, xi 0]) dX8_addPlain_7 mi_X9_isOwn ml_X8_150 se_X9_isOwn L_33 rfl rfl rfl (Nat.le_of_ble_eq_true rfl) h (fun r1 m2 hr1 h => ?_)
  obtain ⟨hT3, hF4⟩ := h
  refine xr_if_eq (tgt := 45) dX8_addPlain_10 (by decide) hr1  (fun c => ?_) (fun c => ?_)
  · have h := hT3 c
    exact h
  · have h := hF4 c
    refine xr_aload_n dX8_addPlain_13 rfl ?_
    refine xr_getR dX8_addPlain_14 fl_X8_12 L_26 rfl ?_
    refine xr_iload_n dX8_addPlain_17 rfl ?_
    refine xr_iconst dX8_addPlain_18 ?_
    refine xr_iconst dX8_addPlain_19 ?_
    refine xr_cvI (As := [xi v1, xi 1, xi 2]) dX8_addPlain_20 mi_X5_offer ml_X8_90 se_X5_offer L_27 rfl rfl rfl (Nat.le_of_ble_eq_true rfl) h (fun r5 m6 hr5 h => ?_)
    obtain ⟨hT7, hF8⟩ := h
    refine xr_if_eq (tgt := 45) dX8_addPlain_23 (by decide) hr5  (fun c => ?_) (fun c => ?_)
    · have h := hT7 c
      exact h
    · have h := hF8 c
      refine xr_aload_n dX8_addPlain_26 rfl ?_
      refine xr_getR dX8_addPlain_27 fl_X8_12 L_26 rfl ?_
      refine xr_bipush dX8_addPlain_30 (by decide) ?_
      refine xr_iload_n dX8_addPlain_32 rfl ?_
      refine xr_cvV (As := [xi 28, xi v2]) dX8_addPlain_33 mi_X5_putWord ml_X8_94 se_X5_putWord L_27 rfl rfl rfl (Nat.le_of_ble_eq_true rfl) h (fun m10 h => ?_)
      refine xr_aload_n dX8_addPlain_36 rfl ?_
      refine xr_getR dX8_addPlain_37 fl_X8_12 L_26 rfl ?_
      refine xr_iload_n dX8_addPlain_40 rfl ?_
      refine xr_iconst dX8_addPlain_41 ?_
      refine xr_cvV (As := [xi v1, xi 2]) dX8_addPlain_42 mi_X5_keep ml_X8_103 se_X5_keep L_27 rfl rfl rfl (Nat.le_of_ble_eq_true rfl) h (fun m12 h => ?_)
      exact h
set_option maxRecDepth 20000 in
theorem B_X8_addPlain_45 {G : xG} {l : Launch} {d : Nat} {P : xMem → Prop} {v1 v2 : Int} {μ : xMem} (h : CI G l d mX9_countMeant [xr G 33, xi v2, xi 0, xi 0] μ (fun r1 m2 => ((r1 ≤ 0 → P m2) ∧ (0 < r1 → CI G l d mX5_offer [xr G 27, xi v1, xi r1, xi 1] m2 (fun r5 m6 => ((r5 = 0 → P m6) ∧ (r5 ≠ 0 → CV G l d mX5_putWord [xr G 27, xi 29, xi v2] m6 (fun m10 => CV G l d mX5_keep [xr G 27, xi v1, xi 1] m10 (fun m12 => P m12))))))))) : K_X8_addPlain_45 G l (d + 1) P v1 v2 μ := by
  unfold K_X8_addPlain_45
  refine xr_aload_n dX8_addPlain_45 rfl ?_
  refine xr_getR dX8_addPlain_46 fl_X8_23 L_26 rfl ?_
  refine xr_iload_n dX8_addPlain_49 rfl ?_
  refine xr_iconst dX8_addPlain_50 ?_
  refine xr_iconst dX8_addPlain_51 ?_
  refine xr_cvI (As := [xi v2, xi 0, xi 0]) dX8_addPlain_52 mi_X9_countMeant ml_X8_153 se_X9_countMeant L_33 rfl rfl rfl (Nat.le_of_ble_eq_true rfl) h (fun r1 m2 hr1 h => ?_)
  refine xr_istore_n' (ll' := [some (xr G 26), some (xi v1), some (xi v2), some (xi r1)]) dX8_addPlain_55 (by decide) rfl rfl ?_
  refine xr_iload_n dX8_addPlain_56 rfl ?_
  obtain ⟨hT3, hF4⟩ := h
  refine xr_if_le (tgt := 92) dX8_addPlain_57 (by decide) hr1  (fun c => ?_) (fun c => ?_)
  · have h := hT3 c
    exact xr_ret dX8_addPlain_92 rfl ⟨rfl, rfl, h⟩
  · have h := hF4 (Int.not_le.mp c)
    refine xr_aload_n dX8_addPlain_60 rfl ?_
    refine xr_getR dX8_addPlain_61 fl_X8_12 L_26 rfl ?_
    refine xr_iload_n dX8_addPlain_64 rfl ?_
    refine xr_iload_n dX8_addPlain_65 rfl ?_
    refine xr_iconst dX8_addPlain_66 ?_
    refine xr_cvI (As := [xi v1, xi r1, xi 1]) dX8_addPlain_67 mi_X5_offer ml_X8_90 se_X5_offer L_27 rfl rfl rfl (Nat.le_of_ble_eq_true rfl) h (fun r5 m6 hr5 h => ?_)
    obtain ⟨hT7, hF8⟩ := h
    refine xr_if_eq (tgt := 92) dX8_addPlain_70 (by decide) hr5  (fun c => ?_) (fun c => ?_)
    · have h := hT7 c
      exact xr_ret dX8_addPlain_92 rfl ⟨rfl, rfl, h⟩
    · have h := hF8 c
      refine xr_aload_n dX8_addPlain_73 rfl ?_
      refine xr_getR dX8_addPlain_74 fl_X8_12 L_26 rfl ?_
      refine xr_bipush dX8_addPlain_77 (by decide) ?_
      refine xr_iload_n dX8_addPlain_79 rfl ?_
      refine xr_cvV (As := [xi 29, xi v2]) dX8_addPlain_80 mi_X5_putWord ml_X8_94 se_X5_putWord L_27 rfl rfl rfl (Nat.le_of_ble_eq_true rfl) h (fun m10 h => ?_)
      refine xr_aload_n dX8_addPlain_83 rfl ?_
      refine xr_getR dX8_addPlain_84 fl_X8_12 L_26 rfl ?_
      refine xr_iload_n dX8_addPlain_87 rfl ?_
      refine xr_iconst dX8_addPlain_88 ?_
      refine xr_cvV (As := [xi v1, xi 1]) dX8_addPlain_89 mi_X5_keep ml_X8_103 se_X5_keep L_27 rfl rfl rfl (Nat.le_of_ble_eq_true rfl) h (fun m12 h => ?_)
      exact xr_ret dX8_addPlain_92 rfl ⟨rfl, rfl, h⟩
theorem dX8_addSigned_0 : decode cX8_addSigned 0 = .ok (.aload_n 0, 1) := by decide +kernel
theorem dX8_addSigned_1 : decode cX8_addSigned 1 = .ok (.getfield 23, 3) := by decide +kernel
theorem dX8_addSigned_4 : decode cX8_addSigned 4 = .ok (.iload_n 2, 1) := by decide +kernel
theorem dX8_addSigned_5 : decode cX8_addSigned 5 = .ok (.iconst 0, 1) := by decide +kernel
theorem dX8_addSigned_6 : decode cX8_addSigned 6 = .ok (.invokevirtual 61, 3) := by decide +kernel
theorem dX8_addSigned_9 : decode cX8_addSigned 9 = .ok (.ifCond .eq 26, 3) := by decide +kernel
theorem dX8_addSigned_12 : decode cX8_addSigned 12 = .ok (.aload_n 0, 1) := by decide +kernel
theorem dX8_addSigned_13 : decode cX8_addSigned 13 = .ok (.getfield 23, 3) := by decide +kernel
theorem dX8_addSigned_16 : decode cX8_addSigned 16 = .ok (.iload_n 3, 1) := by decide +kernel
theorem dX8_addSigned_17 : decode cX8_addSigned 17 = .ok (.iload 4, 2) := by decide +kernel
theorem dX8_addSigned_19 : decode cX8_addSigned 19 = .ok (.invokevirtual 157, 3) := by decide +kernel
theorem dX8_addSigned_22 : decode cX8_addSigned 22 = .ok (.ifCond .eq 13, 3) := by decide +kernel
theorem dX8_addSigned_25 : decode cX8_addSigned 25 = .ok (.aload_n 0, 1) := by decide +kernel
theorem dX8_addSigned_26 : decode cX8_addSigned 26 = .ok (.iload_n 1, 1) := by decide +kernel
theorem dX8_addSigned_27 : decode cX8_addSigned 27 = .ok (.iconst 0, 1) := by decide +kernel
theorem dX8_addSigned_28 : decode cX8_addSigned 28 = .ok (.iload_n 2, 1) := by decide +kernel
theorem dX8_addSigned_29 : decode cX8_addSigned 29 = .ok (.iload_n 3, 1) := by decide +kernel
theorem dX8_addSigned_30 : decode cX8_addSigned 30 = .ok (.iload 4, 2) := by decide +kernel
theorem dX8_addSigned_32 : decode cX8_addSigned 32 = .ok (.invokevirtual 160, 3) := by decide +kernel
theorem dX8_addSigned_35 : decode cX8_addSigned 35 = .ok (.aload_n 0, 1) := by decide +kernel
theorem dX8_addSigned_36 : decode cX8_addSigned 36 = .ok (.getfield 23, 3) := by decide +kernel
theorem dX8_addSigned_39 : decode cX8_addSigned 39 = .ok (.iload_n 2, 1) := by decide +kernel
theorem dX8_addSigned_40 : decode cX8_addSigned 40 = .ok (.iconst 1, 1) := by decide +kernel
theorem dX8_addSigned_41 : decode cX8_addSigned 41 = .ok (.invokevirtual 61, 3) := by decide +kernel
theorem dX8_addSigned_44 : decode cX8_addSigned 44 = .ok (.ifCond .eq 26, 3) := by decide +kernel
theorem dX8_addSigned_47 : decode cX8_addSigned 47 = .ok (.aload_n 0, 1) := by decide +kernel
theorem dX8_addSigned_48 : decode cX8_addSigned 48 = .ok (.getfield 23, 3) := by decide +kernel
theorem dX8_addSigned_51 : decode cX8_addSigned 51 = .ok (.iload_n 3, 1) := by decide +kernel
theorem dX8_addSigned_52 : decode cX8_addSigned 52 = .ok (.iload 4, 2) := by decide +kernel
theorem dX8_addSigned_54 : decode cX8_addSigned 54 = .ok (.invokevirtual 163, 3) := by decide +kernel
theorem dX8_addSigned_57 : decode cX8_addSigned 57 = .ok (.ifCond .eq 13, 3) := by decide +kernel
theorem dX8_addSigned_60 : decode cX8_addSigned 60 = .ok (.aload_n 0, 1) := by decide +kernel
theorem dX8_addSigned_61 : decode cX8_addSigned 61 = .ok (.iload_n 1, 1) := by decide +kernel
theorem dX8_addSigned_62 : decode cX8_addSigned 62 = .ok (.iconst 1, 1) := by decide +kernel
theorem dX8_addSigned_63 : decode cX8_addSigned 63 = .ok (.iload_n 2, 1) := by decide +kernel
theorem dX8_addSigned_64 : decode cX8_addSigned 64 = .ok (.iload_n 3, 1) := by decide +kernel
theorem dX8_addSigned_65 : decode cX8_addSigned 65 = .ok (.iload 4, 2) := by decide +kernel
theorem dX8_addSigned_67 : decode cX8_addSigned 67 = .ok (.invokevirtual 160, 3) := by decide +kernel
theorem dX8_addSigned_70 : decode cX8_addSigned 70 = .ok (.aload_n 0, 1) := by decide +kernel
theorem dX8_addSigned_71 : decode cX8_addSigned 71 = .ok (.getfield 23, 3) := by decide +kernel
theorem dX8_addSigned_74 : decode cX8_addSigned 74 = .ok (.iload_n 2, 1) := by decide +kernel
theorem dX8_addSigned_75 : decode cX8_addSigned 75 = .ok (.iconst 2, 1) := by decide +kernel
theorem dX8_addSigned_76 : decode cX8_addSigned 76 = .ok (.invokevirtual 61, 3) := by decide +kernel
theorem dX8_addSigned_79 : decode cX8_addSigned 79 = .ok (.ifCond .eq 26, 3) := by decide +kernel
theorem dX8_addSigned_82 : decode cX8_addSigned 82 = .ok (.aload_n 0, 1) := by decide +kernel
theorem dX8_addSigned_83 : decode cX8_addSigned 83 = .ok (.getfield 23, 3) := by decide +kernel
theorem dX8_addSigned_86 : decode cX8_addSigned 86 = .ok (.iload_n 3, 1) := by decide +kernel
theorem dX8_addSigned_87 : decode cX8_addSigned 87 = .ok (.iload 4, 2) := by decide +kernel
theorem dX8_addSigned_89 : decode cX8_addSigned 89 = .ok (.invokevirtual 166, 3) := by decide +kernel
theorem dX8_addSigned_92 : decode cX8_addSigned 92 = .ok (.ifCond .eq 13, 3) := by decide +kernel
theorem dX8_addSigned_95 : decode cX8_addSigned 95 = .ok (.aload_n 0, 1) := by decide +kernel
theorem dX8_addSigned_96 : decode cX8_addSigned 96 = .ok (.iload_n 1, 1) := by decide +kernel
theorem dX8_addSigned_97 : decode cX8_addSigned 97 = .ok (.iconst 2, 1) := by decide +kernel
theorem dX8_addSigned_98 : decode cX8_addSigned 98 = .ok (.iload_n 2, 1) := by decide +kernel
theorem dX8_addSigned_99 : decode cX8_addSigned 99 = .ok (.iload_n 3, 1) := by decide +kernel
theorem dX8_addSigned_100 : decode cX8_addSigned 100 = .ok (.iload 4, 2) := by decide +kernel
theorem dX8_addSigned_102 : decode cX8_addSigned 102 = .ok (.invokevirtual 160, 3) := by decide +kernel
theorem dX8_addSigned_105 : decode cX8_addSigned 105 = .ok (.aload_n 0, 1) := by decide +kernel
theorem dX8_addSigned_106 : decode cX8_addSigned 106 = .ok (.getfield 23, 3) := by decide +kernel
theorem dX8_addSigned_109 : decode cX8_addSigned 109 = .ok (.iload_n 2, 1) := by decide +kernel
theorem dX8_addSigned_110 : decode cX8_addSigned 110 = .ok (.iconst 3, 1) := by decide +kernel
theorem dX8_addSigned_111 : decode cX8_addSigned 111 = .ok (.invokevirtual 61, 3) := by decide +kernel
theorem dX8_addSigned_114 : decode cX8_addSigned 114 = .ok (.ifCond .eq 26, 3) := by decide +kernel
theorem dX8_addSigned_117 : decode cX8_addSigned 117 = .ok (.aload_n 0, 1) := by decide +kernel
theorem dX8_addSigned_118 : decode cX8_addSigned 118 = .ok (.getfield 23, 3) := by decide +kernel
theorem dX8_addSigned_121 : decode cX8_addSigned 121 = .ok (.iload_n 3, 1) := by decide +kernel
theorem dX8_addSigned_122 : decode cX8_addSigned 122 = .ok (.iload 4, 2) := by decide +kernel
theorem dX8_addSigned_124 : decode cX8_addSigned 124 = .ok (.invokevirtual 169, 3) := by decide +kernel
theorem dX8_addSigned_127 : decode cX8_addSigned 127 = .ok (.ifCond .eq 13, 3) := by decide +kernel
theorem dX8_addSigned_130 : decode cX8_addSigned 130 = .ok (.aload_n 0, 1) := by decide +kernel
theorem dX8_addSigned_131 : decode cX8_addSigned 131 = .ok (.iload_n 1, 1) := by decide +kernel
theorem dX8_addSigned_132 : decode cX8_addSigned 132 = .ok (.iconst 3, 1) := by decide +kernel
theorem dX8_addSigned_133 : decode cX8_addSigned 133 = .ok (.iload_n 2, 1) := by decide +kernel
theorem dX8_addSigned_134 : decode cX8_addSigned 134 = .ok (.iload_n 3, 1) := by decide +kernel
theorem dX8_addSigned_135 : decode cX8_addSigned 135 = .ok (.iload 4, 2) := by decide +kernel
theorem dX8_addSigned_137 : decode cX8_addSigned 137 = .ok (.invokevirtual 160, 3) := by decide +kernel
theorem dX8_addSigned_140 : decode cX8_addSigned 140 = .ok (.iload_n 3, 1) := by decide +kernel
theorem dX8_addSigned_141 : decode cX8_addSigned 141 = .ok (.iload 4, 2) := by decide +kernel
theorem dX8_addSigned_143 : decode cX8_addSigned 143 = .ok (.if_icmp .ne 63, 3) := by decide +kernel
theorem dX8_addSigned_146 : decode cX8_addSigned 146 = .ok (.aload_n 0, 1) := by decide +kernel
theorem dX8_addSigned_147 : decode cX8_addSigned 147 = .ok (.getfield 23, 3) := by decide +kernel
theorem dX8_addSigned_150 : decode cX8_addSigned 150 = .ok (.iload_n 2, 1) := by decide +kernel
theorem dX8_addSigned_151 : decode cX8_addSigned 151 = .ok (.iconst 5, 1) := by decide +kernel
theorem dX8_addSigned_152 : decode cX8_addSigned 152 = .ok (.invokevirtual 61, 3) := by decide +kernel
theorem dX8_addSigned_155 : decode cX8_addSigned 155 = .ok (.ifCond .eq 51, 3) := by decide +kernel
theorem dX8_addSigned_158 : decode cX8_addSigned 158 = .ok (.aload_n 0, 1) := by decide +kernel
theorem dX8_addSigned_159 : decode cX8_addSigned 159 = .ok (.iload_n 1, 1) := by decide +kernel
theorem dX8_addSigned_160 : decode cX8_addSigned 160 = .ok (.iconst 5, 1) := by decide +kernel
theorem dX8_addSigned_161 : decode cX8_addSigned 161 = .ok (.iload_n 2, 1) := by decide +kernel
theorem dX8_addSigned_162 : decode cX8_addSigned 162 = .ok (.iload_n 3, 1) := by decide +kernel
theorem dX8_addSigned_163 : decode cX8_addSigned 163 = .ok (.bipush 28, 2) := by decide +kernel
theorem dX8_addSigned_165 : decode cX8_addSigned 165 = .ok (.aload_n 0, 1) := by decide +kernel
theorem dX8_addSigned_166 : decode cX8_addSigned 166 = .ok (.getfield 23, 3) := by decide +kernel
theorem dX8_addSigned_169 : decode cX8_addSigned 169 = .ok (.iload_n 3, 1) := by decide +kernel
theorem dX8_addSigned_170 : decode cX8_addSigned 170 = .ok (.iconst 1, 1) := by decide +kernel
theorem dX8_addSigned_171 : decode cX8_addSigned 171 = .ok (.iconst 0, 1) := by decide +kernel
theorem dX8_addSigned_172 : decode cX8_addSigned 172 = .ok (.invokevirtual 150, 3) := by decide +kernel
theorem dX8_addSigned_175 : decode cX8_addSigned 175 = .ok (.ifCond .eq 7, 3) := by decide +kernel
theorem dX8_addSigned_178 : decode cX8_addSigned 178 = .ok (.iconst 1, 1) := by decide +kernel
theorem dX8_addSigned_179 : decode cX8_addSigned 179 = .ok (.goto 4, 3) := by decide +kernel
theorem dX8_addSigned_182 : decode cX8_addSigned 182 = .ok (.iconst 0, 1) := by decide +kernel
theorem dX8_addSigned_183 : decode cX8_addSigned 183 = .ok (.invokevirtual 172, 3) := by decide +kernel
theorem dX8_addSigned_186 : decode cX8_addSigned 186 = .ok (.aload_n 0, 1) := by decide +kernel
theorem dX8_addSigned_187 : decode cX8_addSigned 187 = .ok (.iload_n 1, 1) := by decide +kernel
theorem dX8_addSigned_188 : decode cX8_addSigned 188 = .ok (.iconst 5, 1) := by decide +kernel
theorem dX8_addSigned_189 : decode cX8_addSigned 189 = .ok (.iload_n 2, 1) := by decide +kernel
theorem dX8_addSigned_190 : decode cX8_addSigned 190 = .ok (.iload_n 3, 1) := by decide +kernel
theorem dX8_addSigned_191 : decode cX8_addSigned 191 = .ok (.bipush 29, 2) := by decide +kernel
theorem dX8_addSigned_193 : decode cX8_addSigned 193 = .ok (.aload_n 0, 1) := by decide +kernel
theorem dX8_addSigned_194 : decode cX8_addSigned 194 = .ok (.getfield 23, 3) := by decide +kernel
theorem dX8_addSigned_197 : decode cX8_addSigned 197 = .ok (.iload_n 3, 1) := by decide +kernel
theorem dX8_addSigned_198 : decode cX8_addSigned 198 = .ok (.iconst 1, 1) := by decide +kernel
theorem dX8_addSigned_199 : decode cX8_addSigned 199 = .ok (.iconst 0, 1) := by decide +kernel
theorem dX8_addSigned_200 : decode cX8_addSigned 200 = .ok (.invokevirtual 153, 3) := by decide +kernel
theorem dX8_addSigned_203 : decode cX8_addSigned 203 = .ok (.invokevirtual 172, 3) := by decide +kernel
theorem dX8_addSigned_206 : decode cX8_addSigned 206 = .ok (.iload_n 3, 1) := by decide +kernel
theorem dX8_addSigned_207 : decode cX8_addSigned 207 = .ok (.iload 4, 2) := by decide +kernel
theorem dX8_addSigned_209 : decode cX8_addSigned 209 = .ok (.if_icmp .ne 66, 3) := by decide +kernel
theorem dX8_addSigned_212 : decode cX8_addSigned 212 = .ok (.aload_n 0, 1) := by decide +kernel
theorem dX8_addSigned_213 : decode cX8_addSigned 213 = .ok (.getfield 23, 3) := by decide +kernel
theorem dX8_addSigned_216 : decode cX8_addSigned 216 = .ok (.iload_n 2, 1) := by decide +kernel
theorem dX8_addSigned_217 : decode cX8_addSigned 217 = .ok (.bipush 6, 2) := by decide +kernel
theorem dX8_addSigned_219 : decode cX8_addSigned 219 = .ok (.invokevirtual 61, 3) := by decide +kernel
theorem dX8_addSigned_222 : decode cX8_addSigned 222 = .ok (.ifCond .eq 53, 3) := by decide +kernel
theorem dX8_addSigned_225 : decode cX8_addSigned 225 = .ok (.aload_n 0, 1) := by decide +kernel
theorem dX8_addSigned_226 : decode cX8_addSigned 226 = .ok (.iload_n 1, 1) := by decide +kernel
theorem dX8_addSigned_227 : decode cX8_addSigned 227 = .ok (.bipush 6, 2) := by decide +kernel
theorem dX8_addSigned_229 : decode cX8_addSigned 229 = .ok (.iload_n 2, 1) := by decide +kernel
theorem dX8_addSigned_230 : decode cX8_addSigned 230 = .ok (.iload_n 3, 1) := by decide +kernel
theorem dX8_addSigned_231 : decode cX8_addSigned 231 = .ok (.bipush 28, 2) := by decide +kernel
theorem dX8_addSigned_233 : decode cX8_addSigned 233 = .ok (.aload_n 0, 1) := by decide +kernel
theorem dX8_addSigned_234 : decode cX8_addSigned 234 = .ok (.getfield 23, 3) := by decide +kernel
theorem dX8_addSigned_237 : decode cX8_addSigned 237 = .ok (.iload_n 3, 1) := by decide +kernel
theorem dX8_addSigned_238 : decode cX8_addSigned 238 = .ok (.iconst 0, 1) := by decide +kernel
theorem dX8_addSigned_239 : decode cX8_addSigned 239 = .ok (.iconst 1, 1) := by decide +kernel
theorem dX8_addSigned_240 : decode cX8_addSigned 240 = .ok (.invokevirtual 150, 3) := by decide +kernel
theorem dX8_addSigned_243 : decode cX8_addSigned 243 = .ok (.ifCond .eq 7, 3) := by decide +kernel
theorem dX8_addSigned_246 : decode cX8_addSigned 246 = .ok (.iconst 1, 1) := by decide +kernel
theorem dX8_addSigned_247 : decode cX8_addSigned 247 = .ok (.goto 4, 3) := by decide +kernel
theorem dX8_addSigned_250 : decode cX8_addSigned 250 = .ok (.iconst 0, 1) := by decide +kernel
theorem dX8_addSigned_251 : decode cX8_addSigned 251 = .ok (.invokevirtual 172, 3) := by decide +kernel
theorem dX8_addSigned_254 : decode cX8_addSigned 254 = .ok (.aload_n 0, 1) := by decide +kernel
theorem dX8_addSigned_255 : decode cX8_addSigned 255 = .ok (.iload_n 1, 1) := by decide +kernel
theorem dX8_addSigned_256 : decode cX8_addSigned 256 = .ok (.bipush 6, 2) := by decide +kernel
theorem dX8_addSigned_258 : decode cX8_addSigned 258 = .ok (.iload_n 2, 1) := by decide +kernel
theorem dX8_addSigned_259 : decode cX8_addSigned 259 = .ok (.iload_n 3, 1) := by decide +kernel
theorem dX8_addSigned_260 : decode cX8_addSigned 260 = .ok (.bipush 29, 2) := by decide +kernel
theorem dX8_addSigned_262 : decode cX8_addSigned 262 = .ok (.aload_n 0, 1) := by decide +kernel
theorem dX8_addSigned_263 : decode cX8_addSigned 263 = .ok (.getfield 23, 3) := by decide +kernel
theorem dX8_addSigned_266 : decode cX8_addSigned 266 = .ok (.iload_n 3, 1) := by decide +kernel
theorem dX8_addSigned_267 : decode cX8_addSigned 267 = .ok (.iconst 0, 1) := by decide +kernel
theorem dX8_addSigned_268 : decode cX8_addSigned 268 = .ok (.iconst 1, 1) := by decide +kernel
theorem dX8_addSigned_269 : decode cX8_addSigned 269 = .ok (.invokevirtual 153, 3) := by decide +kernel
theorem dX8_addSigned_272 : decode cX8_addSigned 272 = .ok (.invokevirtual 172, 3) := by decide +kernel
theorem dX8_addSigned_275 : decode cX8_addSigned 275 = .ok (.return_, 1) := by decide +kernel
def K_X8_addSigned_35 (G : xG) (l : Launch) (d : Nat) (P : xMem → Prop) (v1 v2 v3 v4 : Int) (μ : xMem) : Prop := RR G l d 0 0 false mX8_addSigned (qV P) 35 [some (xr G 26), some (xi v1), some (xi v2), some (xi v3), some (xi v4)] [] LAY μ 0 0
def K_X8_addSigned_70 (G : xG) (l : Launch) (d : Nat) (P : xMem → Prop) (v1 v2 v3 v4 : Int) (μ : xMem) : Prop := RR G l d 0 0 false mX8_addSigned (qV P) 70 [some (xr G 26), some (xi v1), some (xi v2), some (xi v3), some (xi v4)] [] LAY μ 0 0
def K_X8_addSigned_105 (G : xG) (l : Launch) (d : Nat) (P : xMem → Prop) (v1 v2 v3 v4 : Int) (μ : xMem) : Prop := RR G l d 0 0 false mX8_addSigned (qV P) 105 [some (xr G 26), some (xi v1), some (xi v2), some (xi v3), some (xi v4)] [] LAY μ 0 0
def K_X8_addSigned_140 (G : xG) (l : Launch) (d : Nat) (P : xMem → Prop) (v1 v2 v3 v4 : Int) (μ : xMem) : Prop := RR G l d 0 0 false mX8_addSigned (qV P) 140 [some (xr G 26), some (xi v1), some (xi v2), some (xi v3), some (xi v4)] [] LAY μ 0 0
def K_X8_addSigned_206 (G : xG) (l : Launch) (d : Nat) (P : xMem → Prop) (v1 v2 v3 v4 : Int) (μ : xMem) : Prop := RR G l d 0 0 false mX8_addSigned (qV P) 206 [some (xr G 26), some (xi v1), some (xi v2), some (xi v3), some (xi v4)] [] LAY μ 0 0
def K_X8_addSigned_183 (G : xG) (l : Launch) (d : Nat) (P : xMem → Prop) (v1 v2 v3 v4 s1 s2 s3 s4 s5 s6 : Int) (μ : xMem) : Prop := RR G l d 0 0 false mX8_addSigned (qV P) 183 [some (xr G 26), some (xi v1), some (xi v2), some (xi v3), some (xi v4)] [xi s6, xi s5, xi s4, xi s3, xi s2, xi s1, xr G 26] LAY μ 0 0
def K_X8_addSigned_251 (G : xG) (l : Launch) (d : Nat) (P : xMem → Prop) (v1 v2 v3 s1 s2 s3 s4 s5 s6 : Int) (μ : xMem) : Prop := RR G l d 0 0 false mX8_addSigned (qV P) 251 [some (xr G 26), some (xi v1), some (xi v2), some (xi v3), none] [xi s6, xi s5, xi s4, xi s3, xi s2, xi s1, xr G 26] LAY μ 0 0
set_option maxRecDepth 20000 in
theorem E_X8_addSigned {G : xG} {l : Launch} {d : Nat} {P : xMem → Prop} {v1 v2 v3 v4 : Int} {μ : xMem} (h : CI G l d mX9_isSign [xr G 33, xi v2, xi 0] μ (fun r1 m2 => ((r1 = 0 → K_X8_addSigned_35 G l (d + 1) P v1 v2 v3 v4 m2) ∧ (r1 ≠ 0 → CI G l d mX9_isShuffled [xr G 33, xi v3, xi v4] m2 (fun r5 m6 => ((r5 = 0 → K_X8_addSigned_35 G l (d + 1) P v1 v2 v3 v4 m6) ∧ (r5 ≠ 0 → CV G l d mX8_addSpread [xr G 26, xi v1, xi 0, xi v2, xi v3, xi v4] m6 (fun m10 => K_X8_addSigned_35 G l (d + 1) P v1 v2 v3 v4 m10)))))))) : CV G l (d + 1) mX8_addSigned [xr G 26, xi v1, xi v2, xi v3, xi v4] μ P := by
  refine CC.ofRR (ll := [some (xr G 26), some (xi v1), some (xi v2), some (xi v3), some (xi v4)]) (by decide +kernel) (Nat.le_of_ble_eq_true rfl) rfl (fun h => by cases h) ?_
  refine xr_aload_n dX8_addSigned_0 rfl ?_
  refine xr_getR dX8_addSigned_1 fl_X8_23 L_26 rfl ?_
  refine xr_iload_n dX8_addSigned_4 rfl ?_
  refine xr_iconst dX8_addSigned_5 ?_
  refine xr_cvI (As := [xi v2, xi 0]) dX8_addSigned_6 mi_X9_isSign ml_X8_61 se_X9_isSign L_33 rfl rfl rfl (Nat.le_of_ble_eq_true rfl) h (fun r1 m2 hr1 h => ?_)
  obtain ⟨hT3, hF4⟩ := h
  refine xr_if_eq (tgt := 35) dX8_addSigned_9 (by decide) hr1  (fun c => ?_) (fun c => ?_)
  · have h := hT3 c
    exact h
  · have h := hF4 c
    refine xr_aload_n dX8_addSigned_12 rfl ?_
    refine xr_getR dX8_addSigned_13 fl_X8_23 L_26 rfl ?_
    refine xr_iload_n dX8_addSigned_16 rfl ?_
    refine xr_iload dX8_addSigned_17 rfl ?_
    refine xr_cvI (As := [xi v3, xi v4]) dX8_addSigned_19 mi_X9_isShuffled ml_X8_157 se_X9_isShuffled L_33 rfl rfl rfl (Nat.le_of_ble_eq_true rfl) h (fun r5 m6 hr5 h => ?_)
    obtain ⟨hT7, hF8⟩ := h
    refine xr_if_eq (tgt := 35) dX8_addSigned_22 (by decide) hr5  (fun c => ?_) (fun c => ?_)
    · have h := hT7 c
      exact h
    · have h := hF8 c
      refine xr_aload_n dX8_addSigned_25 rfl ?_
      refine xr_iload_n dX8_addSigned_26 rfl ?_
      refine xr_iconst dX8_addSigned_27 ?_
      refine xr_iload_n dX8_addSigned_28 rfl ?_
      refine xr_iload_n dX8_addSigned_29 rfl ?_
      refine xr_iload dX8_addSigned_30 rfl ?_
      refine xr_cvV (As := [xi v1, xi 0, xi v2, xi v3, xi v4]) dX8_addSigned_32 mi_X8_addSpread ml_X8_160 se_X8_addSpread L_26 rfl rfl rfl (Nat.le_of_ble_eq_true rfl) h (fun m10 h => ?_)
      exact h
set_option maxRecDepth 20000 in
theorem B_X8_addSigned_35 {G : xG} {l : Launch} {d : Nat} {P : xMem → Prop} {v1 v2 v3 v4 : Int} {μ : xMem} (h : CI G l d mX9_isSign [xr G 33, xi v2, xi 1] μ (fun r1 m2 => ((r1 = 0 → K_X8_addSigned_70 G l (d + 1) P v1 v2 v3 v4 m2) ∧ (r1 ≠ 0 → CI G l d mX9_isHeads [xr G 33, xi v3, xi v4] m2 (fun r5 m6 => ((r5 = 0 → K_X8_addSigned_70 G l (d + 1) P v1 v2 v3 v4 m6) ∧ (r5 ≠ 0 → CV G l d mX8_addSpread [xr G 26, xi v1, xi 1, xi v2, xi v3, xi v4] m6 (fun m10 => K_X8_addSigned_70 G l (d + 1) P v1 v2 v3 v4 m10)))))))) : K_X8_addSigned_35 G l (d + 1) P v1 v2 v3 v4 μ := by
  unfold K_X8_addSigned_35
  refine xr_aload_n dX8_addSigned_35 rfl ?_
  refine xr_getR dX8_addSigned_36 fl_X8_23 L_26 rfl ?_
  refine xr_iload_n dX8_addSigned_39 rfl ?_
  refine xr_iconst dX8_addSigned_40 ?_
  refine xr_cvI (As := [xi v2, xi 1]) dX8_addSigned_41 mi_X9_isSign ml_X8_61 se_X9_isSign L_33 rfl rfl rfl (Nat.le_of_ble_eq_true rfl) h (fun r1 m2 hr1 h => ?_)
  obtain ⟨hT3, hF4⟩ := h
  refine xr_if_eq (tgt := 70) dX8_addSigned_44 (by decide) hr1  (fun c => ?_) (fun c => ?_)
  · have h := hT3 c
    exact h
  · have h := hF4 c
    refine xr_aload_n dX8_addSigned_47 rfl ?_
    refine xr_getR dX8_addSigned_48 fl_X8_23 L_26 rfl ?_
    refine xr_iload_n dX8_addSigned_51 rfl ?_
    refine xr_iload dX8_addSigned_52 rfl ?_
    refine xr_cvI (As := [xi v3, xi v4]) dX8_addSigned_54 mi_X9_isHeads ml_X8_163 se_X9_isHeads L_33 rfl rfl rfl (Nat.le_of_ble_eq_true rfl) h (fun r5 m6 hr5 h => ?_)
    obtain ⟨hT7, hF8⟩ := h
    refine xr_if_eq (tgt := 70) dX8_addSigned_57 (by decide) hr5  (fun c => ?_) (fun c => ?_)
    · have h := hT7 c
      exact h
    · have h := hF8 c
      refine xr_aload_n dX8_addSigned_60 rfl ?_
      refine xr_iload_n dX8_addSigned_61 rfl ?_
      refine xr_iconst dX8_addSigned_62 ?_
      refine xr_iload_n dX8_addSigned_63 rfl ?_
      refine xr_iload_n dX8_addSigned_64 rfl ?_
      refine xr_iload dX8_addSigned_65 rfl ?_
      refine xr_cvV (As := [xi v1, xi 1, xi v2, xi v3, xi v4]) dX8_addSigned_67 mi_X8_addSpread ml_X8_160 se_X8_addSpread L_26 rfl rfl rfl (Nat.le_of_ble_eq_true rfl) h (fun m10 h => ?_)
      exact h
set_option maxRecDepth 20000 in
theorem B_X8_addSigned_70 {G : xG} {l : Launch} {d : Nat} {P : xMem → Prop} {v1 v2 v3 v4 : Int} {μ : xMem} (h : CI G l d mX9_isSign [xr G 33, xi v2, xi 2] μ (fun r1 m2 => ((r1 = 0 → K_X8_addSigned_105 G l (d + 1) P v1 v2 v3 v4 m2) ∧ (r1 ≠ 0 → CI G l d mX9_isTails [xr G 33, xi v3, xi v4] m2 (fun r5 m6 => ((r5 = 0 → K_X8_addSigned_105 G l (d + 1) P v1 v2 v3 v4 m6) ∧ (r5 ≠ 0 → CV G l d mX8_addSpread [xr G 26, xi v1, xi 2, xi v2, xi v3, xi v4] m6 (fun m10 => K_X8_addSigned_105 G l (d + 1) P v1 v2 v3 v4 m10)))))))) : K_X8_addSigned_70 G l (d + 1) P v1 v2 v3 v4 μ := by
  unfold K_X8_addSigned_70
  refine xr_aload_n dX8_addSigned_70 rfl ?_
  refine xr_getR dX8_addSigned_71 fl_X8_23 L_26 rfl ?_
  refine xr_iload_n dX8_addSigned_74 rfl ?_
  refine xr_iconst dX8_addSigned_75 ?_
  refine xr_cvI (As := [xi v2, xi 2]) dX8_addSigned_76 mi_X9_isSign ml_X8_61 se_X9_isSign L_33 rfl rfl rfl (Nat.le_of_ble_eq_true rfl) h (fun r1 m2 hr1 h => ?_)
  obtain ⟨hT3, hF4⟩ := h
  refine xr_if_eq (tgt := 105) dX8_addSigned_79 (by decide) hr1  (fun c => ?_) (fun c => ?_)
  · have h := hT3 c
    exact h
  · have h := hF4 c
    refine xr_aload_n dX8_addSigned_82 rfl ?_
    refine xr_getR dX8_addSigned_83 fl_X8_23 L_26 rfl ?_
    refine xr_iload_n dX8_addSigned_86 rfl ?_
    refine xr_iload dX8_addSigned_87 rfl ?_
    refine xr_cvI (As := [xi v3, xi v4]) dX8_addSigned_89 mi_X9_isTails ml_X8_166 se_X9_isTails L_33 rfl rfl rfl (Nat.le_of_ble_eq_true rfl) h (fun r5 m6 hr5 h => ?_)
    obtain ⟨hT7, hF8⟩ := h
    refine xr_if_eq (tgt := 105) dX8_addSigned_92 (by decide) hr5  (fun c => ?_) (fun c => ?_)
    · have h := hT7 c
      exact h
    · have h := hF8 c
      refine xr_aload_n dX8_addSigned_95 rfl ?_
      refine xr_iload_n dX8_addSigned_96 rfl ?_
      refine xr_iconst dX8_addSigned_97 ?_
      refine xr_iload_n dX8_addSigned_98 rfl ?_
      refine xr_iload_n dX8_addSigned_99 rfl ?_
      refine xr_iload dX8_addSigned_100 rfl ?_
      refine xr_cvV (As := [xi v1, xi 2, xi v2, xi v3, xi v4]) dX8_addSigned_102 mi_X8_addSpread ml_X8_160 se_X8_addSpread L_26 rfl rfl rfl (Nat.le_of_ble_eq_true rfl) h (fun m10 h => ?_)
      exact h
set_option maxRecDepth 20000 in
theorem B_X8_addSigned_105 {G : xG} {l : Launch} {d : Nat} {P : xMem → Prop} {v1 v2 v3 v4 : Int} {μ : xMem} (h : CI G l d mX9_isSign [xr G 33, xi v2, xi 3] μ (fun r1 m2 => ((r1 = 0 → K_X8_addSigned_140 G l (d + 1) P v1 v2 v3 v4 m2) ∧ (r1 ≠ 0 → CI G l d mX9_isHidden [xr G 33, xi v3, xi v4] m2 (fun r5 m6 => ((r5 = 0 → K_X8_addSigned_140 G l (d + 1) P v1 v2 v3 v4 m6) ∧ (r5 ≠ 0 → CV G l d mX8_addSpread [xr G 26, xi v1, xi 3, xi v2, xi v3, xi v4] m6 (fun m10 => K_X8_addSigned_140 G l (d + 1) P v1 v2 v3 v4 m10)))))))) : K_X8_addSigned_105 G l (d + 1) P v1 v2 v3 v4 μ := by
  unfold K_X8_addSigned_105
  refine xr_aload_n dX8_addSigned_105 rfl ?_
  refine xr_getR dX8_addSigned_106 fl_X8_23 L_26 rfl ?_
  refine xr_iload_n dX8_addSigned_109 rfl ?_
  refine xr_iconst dX8_addSigned_110 ?_
  refine xr_cvI (As := [xi v2, xi 3]) dX8_addSigned_111 mi_X9_isSign ml_X8_61 se_X9_isSign L_33 rfl rfl rfl (Nat.le_of_ble_eq_true rfl) h (fun r1 m2 hr1 h => ?_)
  obtain ⟨hT3, hF4⟩ := h
  refine xr_if_eq (tgt := 140) dX8_addSigned_114 (by decide) hr1  (fun c => ?_) (fun c => ?_)
  · have h := hT3 c
    exact h
  · have h := hF4 c
    refine xr_aload_n dX8_addSigned_117 rfl ?_
    refine xr_getR dX8_addSigned_118 fl_X8_23 L_26 rfl ?_
    refine xr_iload_n dX8_addSigned_121 rfl ?_
    refine xr_iload dX8_addSigned_122 rfl ?_
    refine xr_cvI (As := [xi v3, xi v4]) dX8_addSigned_124 mi_X9_isHidden ml_X8_169 se_X9_isHidden L_33 rfl rfl rfl (Nat.le_of_ble_eq_true rfl) h (fun r5 m6 hr5 h => ?_)
    obtain ⟨hT7, hF8⟩ := h
    refine xr_if_eq (tgt := 140) dX8_addSigned_127 (by decide) hr5  (fun c => ?_) (fun c => ?_)
    · have h := hT7 c
      exact h
    · have h := hF8 c
      refine xr_aload_n dX8_addSigned_130 rfl ?_
      refine xr_iload_n dX8_addSigned_131 rfl ?_
      refine xr_iconst dX8_addSigned_132 ?_
      refine xr_iload_n dX8_addSigned_133 rfl ?_
      refine xr_iload_n dX8_addSigned_134 rfl ?_
      refine xr_iload dX8_addSigned_135 rfl ?_
      refine xr_cvV (As := [xi v1, xi 3, xi v2, xi v3, xi v4]) dX8_addSigned_137 mi_X8_addSpread ml_X8_160 se_X8_addSpread L_26 rfl rfl rfl (Nat.le_of_ble_eq_true rfl) h (fun m10 h => ?_)
      exact h
set_option maxRecDepth 20000 in
theorem B_X8_addSigned_140 {G : xG} {l : Launch} {d : Nat} {P : xMem → Prop} {v1 v2 v3 v4 : Int} {μ : xMem} (h : (iR v3 ∧ iR v4 ∧ (v3 ≠ v4 → K_X8_addSigned_206 G l (d + 1) P v1 v2 v3 v4 μ) ∧ (v3 = v4 → CI G l d mX9_isSign [xr G 33, xi v2, xi 5] μ (fun r5 m6 => ((r5 = 0 → K_X8_addSigned_206 G l (d + 1) P v1 v2 v3 v4 m6) ∧ (r5 ≠ 0 → CI G l d mX9_isOwn [xr G 33, xi v3, xi 1, xi 0] m6 (fun r9 m10 => ((r9 = 0 → K_X8_addSigned_183 G l (d + 1) P v1 v2 v3 v4 v1 5 v2 v3 28 0 m10) ∧ (r9 ≠ 0 → K_X8_addSigned_183 G l (d + 1) P v1 v2 v3 v4 v1 5 v2 v3 28 1 m10))))))))) : K_X8_addSigned_140 G l (d + 1) P v1 v2 v3 v4 μ := by
  unfold K_X8_addSigned_140
  refine xr_iload_n dX8_addSigned_140 rfl ?_
  refine xr_iload dX8_addSigned_141 rfl ?_
  obtain ⟨q1, q2, hT3, hF4⟩ := h
  refine xr_icmp_ne (tgt := 206) dX8_addSigned_143 (by decide) q1 q2 (fun c => ?_) (fun c => ?_)
  · have h := hT3 c
    exact h
  · have h := hF4 c
    refine xr_aload_n dX8_addSigned_146 rfl ?_
    refine xr_getR dX8_addSigned_147 fl_X8_23 L_26 rfl ?_
    refine xr_iload_n dX8_addSigned_150 rfl ?_
    refine xr_iconst dX8_addSigned_151 ?_
    refine xr_cvI (As := [xi v2, xi 5]) dX8_addSigned_152 mi_X9_isSign ml_X8_61 se_X9_isSign L_33 rfl rfl rfl (Nat.le_of_ble_eq_true rfl) h (fun r5 m6 hr5 h => ?_)
    obtain ⟨hT7, hF8⟩ := h
    refine xr_if_eq (tgt := 206) dX8_addSigned_155 (by decide) hr5  (fun c => ?_) (fun c => ?_)
    · have h := hT7 c
      exact h
    · have h := hF8 c
      refine xr_aload_n dX8_addSigned_158 rfl ?_
      refine xr_iload_n dX8_addSigned_159 rfl ?_
      refine xr_iconst dX8_addSigned_160 ?_
      refine xr_iload_n dX8_addSigned_161 rfl ?_
      refine xr_iload_n dX8_addSigned_162 rfl ?_
      refine xr_bipush dX8_addSigned_163 (by decide) ?_
      refine xr_aload_n dX8_addSigned_165 rfl ?_
      refine xr_getR dX8_addSigned_166 fl_X8_23 L_26 rfl ?_
      refine xr_iload_n dX8_addSigned_169 rfl ?_
      refine xr_iconst dX8_addSigned_170 ?_
      refine xr_iconst dX8_addSigned_171 ?_
      refine xr_cvI (As := [xi v3, xi 1, xi 0]) dX8_addSigned_172 mi_X9_isOwn ml_X8_150 se_X9_isOwn L_33 rfl rfl rfl (Nat.le_of_ble_eq_true rfl) h (fun r9 m10 hr9 h => ?_)
      obtain ⟨hT11, hF12⟩ := h
      refine xr_if_eq (tgt := 182) dX8_addSigned_175 (by decide) hr9  (fun c => ?_) (fun c => ?_)
      · have h := hT11 c
        refine xr_iconst dX8_addSigned_182 ?_
        exact h
      · have h := hF12 c
        refine xr_iconst dX8_addSigned_178 ?_
        refine xr_goto (tgt := 183) dX8_addSigned_179 (by decide) ?_
        exact h
set_option maxRecDepth 20000 in
theorem B_X8_addSigned_206 {G : xG} {l : Launch} {d : Nat} {P : xMem → Prop} {v1 v2 v3 v4 : Int} {μ : xMem} (h : (iR v3 ∧ iR v4 ∧ (v3 ≠ v4 → P μ) ∧ (v3 = v4 → CI G l d mX9_isSign [xr G 33, xi v2, xi 6] μ (fun r5 m6 => ((r5 = 0 → P m6) ∧ (r5 ≠ 0 → CI G l d mX9_isOwn [xr G 33, xi v3, xi 0, xi 1] m6 (fun r9 m10 => ((r9 = 0 → K_X8_addSigned_251 G l (d + 1) P v1 v2 v3 v1 6 v2 v3 28 0 m10) ∧ (r9 ≠ 0 → K_X8_addSigned_251 G l (d + 1) P v1 v2 v3 v1 6 v2 v3 28 1 m10))))))))) : K_X8_addSigned_206 G l (d + 1) P v1 v2 v3 v4 μ := by
  unfold K_X8_addSigned_206
  refine xr_iload_n dX8_addSigned_206 rfl ?_
  refine xr_iload dX8_addSigned_207 rfl ?_
  obtain ⟨q1, q2, hT3, hF4⟩ := h
  refine xr_icmp_ne (tgt := 275) dX8_addSigned_209 (by decide) q1 q2 (fun c => ?_) (fun c => ?_)
  · have h := hT3 c
    exact xr_ret dX8_addSigned_275 rfl ⟨rfl, rfl, h⟩
  · have h := hF4 c
    refine xr_aload_n dX8_addSigned_212 rfl ?_
    refine xr_getR dX8_addSigned_213 fl_X8_23 L_26 rfl ?_
    refine xr_iload_n dX8_addSigned_216 rfl ?_
    refine xr_bipush dX8_addSigned_217 (by decide) ?_
    refine xr_cvI (As := [xi v2, xi 6]) dX8_addSigned_219 mi_X9_isSign ml_X8_61 se_X9_isSign L_33 rfl rfl rfl (Nat.le_of_ble_eq_true rfl) h (fun r5 m6 hr5 h => ?_)
    obtain ⟨hT7, hF8⟩ := h
    refine xr_if_eq (tgt := 275) dX8_addSigned_222 (by decide) hr5  (fun c => ?_) (fun c => ?_)
    · have h := hT7 c
      exact xr_ret dX8_addSigned_275 rfl ⟨rfl, rfl, h⟩
    · have h := hF8 c
      refine xr_aload_n dX8_addSigned_225 rfl ?_
      refine xr_iload_n dX8_addSigned_226 rfl ?_
      refine xr_bipush dX8_addSigned_227 (by decide) ?_
      refine xr_iload_n dX8_addSigned_229 rfl ?_
      refine xr_iload_n dX8_addSigned_230 rfl ?_
      refine xr_bipush dX8_addSigned_231 (by decide) ?_
      refine xr_aload_n dX8_addSigned_233 rfl ?_
      refine xr_getR dX8_addSigned_234 fl_X8_23 L_26 rfl ?_
      refine xr_iload_n dX8_addSigned_237 rfl ?_
      refine xr_iconst dX8_addSigned_238 ?_
      refine xr_iconst dX8_addSigned_239 ?_
      refine xr_cvI (As := [xi v3, xi 0, xi 1]) dX8_addSigned_240 mi_X9_isOwn ml_X8_150 se_X9_isOwn L_33 rfl rfl rfl (Nat.le_of_ble_eq_true rfl) h (fun r9 m10 hr9 h => ?_)
      obtain ⟨hT11, hF12⟩ := h
      refine xr_if_eq (tgt := 250) dX8_addSigned_243 (by decide) hr9  (fun c => ?_) (fun c => ?_)
      · have h := hT11 c
        refine xr_iconst dX8_addSigned_250 ?_
        refine xr_wk (ll' := [some (xr G 26), some (xi v1), some (xi v2), some (xi v3), none]) ⟨rfl, ⟨rfl, ⟨rfl, ⟨rfl, trivial⟩⟩⟩⟩ ?_
        exact h
      · have h := hF12 c
        refine xr_iconst dX8_addSigned_246 ?_
        refine xr_goto (tgt := 251) dX8_addSigned_247 (by decide) ?_
        refine xr_wk (ll' := [some (xr G 26), some (xi v1), some (xi v2), some (xi v3), none]) ⟨rfl, ⟨rfl, ⟨rfl, ⟨rfl, trivial⟩⟩⟩⟩ ?_
        exact h
set_option maxRecDepth 20000 in
theorem B_X8_addSigned_183 {G : xG} {l : Launch} {d : Nat} {P : xMem → Prop} {v1 v2 v3 v4 s1 s2 s3 s4 s5 s6 : Int} {μ : xMem} (h : CV G l d mX8_addCut [xr G 26, xi s1, xi s2, xi s3, xi s4, xi s5, xi s6] μ (fun m2 => CI G l d mX9_countMeant [xr G 33, xi v3, xi 1, xi 0] m2 (fun r3 m4 => CV G l d mX8_addCut [xr G 26, xi v1, xi 5, xi v2, xi v3, xi 29, xi r3] m4 (fun m6 => K_X8_addSigned_206 G l (d + 1) P v1 v2 v3 v4 m6)))) : K_X8_addSigned_183 G l (d + 1) P v1 v2 v3 v4 s1 s2 s3 s4 s5 s6 μ := by
  unfold K_X8_addSigned_183
  refine xr_cvV (As := [xi s1, xi s2, xi s3, xi s4, xi s5, xi s6]) dX8_addSigned_183 mi_X8_addCut ml_X8_172 se_X8_addCut L_26 rfl rfl rfl (Nat.le_of_ble_eq_true rfl) h (fun m2 h => ?_)
  refine xr_aload_n dX8_addSigned_186 rfl ?_
  refine xr_iload_n dX8_addSigned_187 rfl ?_
  refine xr_iconst dX8_addSigned_188 ?_
  refine xr_iload_n dX8_addSigned_189 rfl ?_
  refine xr_iload_n dX8_addSigned_190 rfl ?_
  refine xr_bipush dX8_addSigned_191 (by decide) ?_
  refine xr_aload_n dX8_addSigned_193 rfl ?_
  refine xr_getR dX8_addSigned_194 fl_X8_23 L_26 rfl ?_
  refine xr_iload_n dX8_addSigned_197 rfl ?_
  refine xr_iconst dX8_addSigned_198 ?_
  refine xr_iconst dX8_addSigned_199 ?_
  refine xr_cvI (As := [xi v3, xi 1, xi 0]) dX8_addSigned_200 mi_X9_countMeant ml_X8_153 se_X9_countMeant L_33 rfl rfl rfl (Nat.le_of_ble_eq_true rfl) h (fun r3 m4 hr3 h => ?_)
  refine xr_cvV (As := [xi v1, xi 5, xi v2, xi v3, xi 29, xi r3]) dX8_addSigned_203 mi_X8_addCut ml_X8_172 se_X8_addCut L_26 rfl rfl rfl (Nat.le_of_ble_eq_true rfl) h (fun m6 h => ?_)
  exact h
set_option maxRecDepth 20000 in
theorem B_X8_addSigned_251 {G : xG} {l : Launch} {d : Nat} {P : xMem → Prop} {v1 v2 v3 s1 s2 s3 s4 s5 s6 : Int} {μ : xMem} (h : CV G l d mX8_addCut [xr G 26, xi s1, xi s2, xi s3, xi s4, xi s5, xi s6] μ (fun m2 => CI G l d mX9_countMeant [xr G 33, xi v3, xi 0, xi 1] m2 (fun r3 m4 => CV G l d mX8_addCut [xr G 26, xi v1, xi 6, xi v2, xi v3, xi 29, xi r3] m4 (fun m6 => P m6)))) : K_X8_addSigned_251 G l (d + 1) P v1 v2 v3 s1 s2 s3 s4 s5 s6 μ := by
  unfold K_X8_addSigned_251
  refine xr_cvV (As := [xi s1, xi s2, xi s3, xi s4, xi s5, xi s6]) dX8_addSigned_251 mi_X8_addCut ml_X8_172 se_X8_addCut L_26 rfl rfl rfl (Nat.le_of_ble_eq_true rfl) h (fun m2 h => ?_)
  refine xr_aload_n dX8_addSigned_254 rfl ?_
  refine xr_iload_n dX8_addSigned_255 rfl ?_
  refine xr_bipush dX8_addSigned_256 (by decide) ?_
  refine xr_iload_n dX8_addSigned_258 rfl ?_
  refine xr_iload_n dX8_addSigned_259 rfl ?_
  refine xr_bipush dX8_addSigned_260 (by decide) ?_
  refine xr_aload_n dX8_addSigned_262 rfl ?_
  refine xr_getR dX8_addSigned_263 fl_X8_23 L_26 rfl ?_
  refine xr_iload_n dX8_addSigned_266 rfl ?_
  refine xr_iconst dX8_addSigned_267 ?_
  refine xr_iconst dX8_addSigned_268 ?_
  refine xr_cvI (As := [xi v3, xi 0, xi 1]) dX8_addSigned_269 mi_X9_countMeant ml_X8_153 se_X9_countMeant L_33 rfl rfl rfl (Nat.le_of_ble_eq_true rfl) h (fun r3 m4 hr3 h => ?_)
  refine xr_cvV (As := [xi v1, xi 6, xi v2, xi v3, xi 29, xi r3]) dX8_addSigned_272 mi_X8_addCut ml_X8_172 se_X8_addCut L_26 rfl rfl rfl (Nat.le_of_ble_eq_true rfl) h (fun m6 h => ?_)
  exact xr_ret dX8_addSigned_275 rfl ⟨rfl, rfl, h⟩
theorem dX8_addSpread_0 : decode cX8_addSpread 0 = .ok (.aload_n 0, 1) := by decide +kernel
theorem dX8_addSpread_1 : decode cX8_addSpread 1 = .ok (.getfield 12, 3) := by decide +kernel
theorem dX8_addSpread_4 : decode cX8_addSpread 4 = .ok (.iload_n 1, 1) := by decide +kernel
theorem dX8_addSpread_5 : decode cX8_addSpread 5 = .ok (.iconst 1, 1) := by decide +kernel
theorem dX8_addSpread_6 : decode cX8_addSpread 6 = .ok (.iconst 1, 1) := by decide +kernel
theorem dX8_addSpread_7 : decode cX8_addSpread 7 = .ok (.invokevirtual 90, 3) := by decide +kernel
theorem dX8_addSpread_10 : decode cX8_addSpread 10 = .ok (.ifCond .eq 70, 3) := by decide +kernel
theorem dX8_addSpread_13 : decode cX8_addSpread 13 = .ok (.aload_n 0, 1) := by decide +kernel
theorem dX8_addSpread_14 : decode cX8_addSpread 14 = .ok (.getfield 12, 3) := by decide +kernel
theorem dX8_addSpread_17 : decode cX8_addSpread 17 = .ok (.getstatic 176, 3) := by decide +kernel
theorem dX8_addSpread_20 : decode cX8_addSpread 20 = .ok (.iload_n 2, 1) := by decide +kernel
theorem dX8_addSpread_21 : decode cX8_addSpread 21 = .ok (.iaload, 1) := by decide +kernel
theorem dX8_addSpread_22 : decode cX8_addSpread 22 = .ok (.iload_n 3, 1) := by decide +kernel
theorem dX8_addSpread_23 : decode cX8_addSpread 23 = .ok (.invokevirtual 94, 3) := by decide +kernel
theorem dX8_addSpread_26 : decode cX8_addSpread 26 = .ok (.aload_n 0, 1) := by decide +kernel
theorem dX8_addSpread_27 : decode cX8_addSpread 27 = .ok (.getfield 12, 3) := by decide +kernel
theorem dX8_addSpread_30 : decode cX8_addSpread 30 = .ok (.iconst 1, 1) := by decide +kernel
theorem dX8_addSpread_31 : decode cX8_addSpread 31 = .ok (.invokevirtual 100, 3) := by decide +kernel
theorem dX8_addSpread_34 : decode cX8_addSpread 34 = .ok (.iload 4, 2) := by decide +kernel
theorem dX8_addSpread_36 : decode cX8_addSpread 36 = .ok (.istore 6, 2) := by decide +kernel
theorem dX8_addSpread_38 : decode cX8_addSpread 38 = .ok (.iload 6, 2) := by decide +kernel
theorem dX8_addSpread_40 : decode cX8_addSpread 40 = .ok (.iload 5, 2) := by decide +kernel
theorem dX8_addSpread_42 : decode cX8_addSpread 42 = .ok (.if_icmp .gt 21, 3) := by decide +kernel
theorem dX8_addSpread_45 : decode cX8_addSpread 45 = .ok (.aload_n 0, 1) := by decide +kernel
theorem dX8_addSpread_46 : decode cX8_addSpread 46 = .ok (.getfield 12, 3) := by decide +kernel
theorem dX8_addSpread_49 : decode cX8_addSpread 49 = .ok (.bipush 12, 2) := by decide +kernel
theorem dX8_addSpread_51 : decode cX8_addSpread 51 = .ok (.iload 6, 2) := by decide +kernel
theorem dX8_addSpread_53 : decode cX8_addSpread 53 = .ok (.iadd, 1) := by decide +kernel
theorem dX8_addSpread_54 : decode cX8_addSpread 54 = .ok (.invokevirtual 100, 3) := by decide +kernel
theorem dX8_addSpread_57 : decode cX8_addSpread 57 = .ok (.iinc 6 1, 3) := by decide +kernel
theorem dX8_addSpread_60 : decode cX8_addSpread 60 = .ok (.goto (-22), 3) := by decide +kernel
theorem dX8_addSpread_63 : decode cX8_addSpread 63 = .ok (.aload_n 0, 1) := by decide +kernel
theorem dX8_addSpread_64 : decode cX8_addSpread 64 = .ok (.getfield 12, 3) := by decide +kernel
theorem dX8_addSpread_67 : decode cX8_addSpread 67 = .ok (.iconst 2, 1) := by decide +kernel
theorem dX8_addSpread_68 : decode cX8_addSpread 68 = .ok (.invokevirtual 100, 3) := by decide +kernel
theorem dX8_addSpread_71 : decode cX8_addSpread 71 = .ok (.aload_n 0, 1) := by decide +kernel
theorem dX8_addSpread_72 : decode cX8_addSpread 72 = .ok (.getfield 12, 3) := by decide +kernel
theorem dX8_addSpread_75 : decode cX8_addSpread 75 = .ok (.iload_n 1, 1) := by decide +kernel
theorem dX8_addSpread_76 : decode cX8_addSpread 76 = .ok (.iconst 1, 1) := by decide +kernel
theorem dX8_addSpread_77 : decode cX8_addSpread 77 = .ok (.invokevirtual 103, 3) := by decide +kernel
theorem dX8_addSpread_80 : decode cX8_addSpread 80 = .ok (.return_, 1) := by decide +kernel
def K_X8_addSpread_38 (G : xG) (l : Launch) (d : Nat) (P : xMem → Prop) (v1 v5 v6 : Int) (μ : xMem) : Prop := RR G l d 0 0 false mX8_addSpread (qV P) 38 [some (xr G 26), some (xi v1), none, none, none, some (xi v5), some (xi v6)] [] LAY μ 0 0
set_option maxRecDepth 20000 in
theorem E_X8_addSpread {G : xG} {l : Launch} {d : Nat} {P : xMem → Prop} {v1 v2 v3 v4 v5 : Int} {μ : xMem} (h : CI G l d mX5_offer [xr G 27, xi v1, xi 1, xi 1] μ (fun r1 m2 => ((r1 = 0 → P m2) ∧ (r1 ≠ 0 → ((0 ≤ v2 ∧ v2 < 10) ∧ CV G l d mX5_putWord [xr G 27, xi (xPS (v2).toNat), xi v3] m2 (fun m7 => CV G l d mX5_put [xr G 27, xi 1] m7 (fun m9 => K_X8_addSpread_38 G l (d + 1) P v1 v5 v4 m9))))))) : CV G l (d + 1) mX8_addSpread [xr G 26, xi v1, xi v2, xi v3, xi v4, xi v5] μ P := by
  refine CC.ofRR (ll := [some (xr G 26), some (xi v1), some (xi v2), some (xi v3), some (xi v4), some (xi v5), none]) (by decide +kernel) (Nat.le_of_ble_eq_true rfl) rfl (fun h => by cases h) ?_
  refine xr_aload_n dX8_addSpread_0 rfl ?_
  refine xr_getR dX8_addSpread_1 fl_X8_12 L_26 rfl ?_
  refine xr_iload_n dX8_addSpread_4 rfl ?_
  refine xr_iconst dX8_addSpread_5 ?_
  refine xr_iconst dX8_addSpread_6 ?_
  refine xr_cvI (As := [xi v1, xi 1, xi 1]) dX8_addSpread_7 mi_X5_offer ml_X8_90 se_X5_offer L_27 rfl rfl rfl (Nat.le_of_ble_eq_true rfl) h (fun r1 m2 hr1 h => ?_)
  obtain ⟨hT3, hF4⟩ := h
  refine xr_if_eq (tgt := 80) dX8_addSpread_10 (by decide) hr1  (fun c => ?_) (fun c => ?_)
  · have h := hT3 c
    exact xr_ret dX8_addSpread_80 rfl ⟨rfl, rfl, h⟩
  · have h := hF4 c
    refine xr_aload_n dX8_addSpread_13 rfl ?_
    refine xr_getR dX8_addSpread_14 fl_X8_12 L_26 rfl ?_
    refine xr_ps dX8_addSpread_17 fs_X8_176 ?_
    refine xr_iload_n dX8_addSpread_20 rfl ?_
    obtain ⟨q5, h⟩ := h
    refine xr_psld dX8_addSpread_21 q5 ?_
    refine xr_iload_n dX8_addSpread_22 rfl ?_
    refine xr_cvV (As := [xi (xPS (v2).toNat), xi v3]) dX8_addSpread_23 mi_X5_putWord ml_X8_94 se_X5_putWord L_27 rfl rfl rfl (Nat.le_of_ble_eq_true rfl) h (fun m7 h => ?_)
    refine xr_aload_n dX8_addSpread_26 rfl ?_
    refine xr_getR dX8_addSpread_27 fl_X8_12 L_26 rfl ?_
    refine xr_iconst dX8_addSpread_30 ?_
    refine xr_cvV (As := [xi 1]) dX8_addSpread_31 mi_X5_put ml_X8_100 se_X5_put L_27 rfl rfl rfl (Nat.le_of_ble_eq_true rfl) h (fun m9 h => ?_)
    refine xr_iload dX8_addSpread_34 rfl ?_
    refine xr_istore' (ll' := [some (xr G 26), some (xi v1), some (xi v2), some (xi v3), some (xi v4), some (xi v5), some (xi v4)]) dX8_addSpread_36 (by decide) rfl rfl ?_
    refine xr_wk (ll' := [some (xr G 26), some (xi v1), none, none, none, some (xi v5), some (xi v4)]) ⟨rfl, ⟨rfl, ⟨rfl, ⟨rfl, trivial⟩⟩⟩⟩ ?_
    exact h
set_option maxRecDepth 20000 in
theorem B_X8_addSpread_38 {G : xG} {l : Launch} {d : Nat} {P : xMem → Prop} {v1 v5 v6 : Int} {μ : xMem} (h : (iR v6 ∧ iR v5 ∧ (v5 < v6 → CV G l d mX5_put [xr G 27, xi 2] μ (fun m6 => CV G l d mX5_keep [xr G 27, xi v1, xi 1] m6 (fun m8 => P m8))) ∧ (v6 ≤ v5 → CV G l d mX5_put [xr G 27, xi (12 + v6)] μ (fun m10 => K_X8_addSpread_38 G l (d + 1) P v1 v5 (v6 + 1) m10)))) : K_X8_addSpread_38 G l (d + 1) P v1 v5 v6 μ := by
  unfold K_X8_addSpread_38
  refine xr_iload dX8_addSpread_38 rfl ?_
  refine xr_iload dX8_addSpread_40 rfl ?_
  obtain ⟨q1, q2, hT3, hF4⟩ := h
  refine xr_icmp_gt (tgt := 63) dX8_addSpread_42 (by decide) q1 q2 (fun c => ?_) (fun c => ?_)
  · have h := hT3 c
    refine xr_aload_n dX8_addSpread_63 rfl ?_
    refine xr_getR dX8_addSpread_64 fl_X8_12 L_26 rfl ?_
    refine xr_iconst dX8_addSpread_67 ?_
    refine xr_cvV (As := [xi 2]) dX8_addSpread_68 mi_X5_put ml_X8_100 se_X5_put L_27 rfl rfl rfl (Nat.le_of_ble_eq_true rfl) h (fun m6 h => ?_)
    refine xr_aload_n dX8_addSpread_71 rfl ?_
    refine xr_getR dX8_addSpread_72 fl_X8_12 L_26 rfl ?_
    refine xr_iload_n dX8_addSpread_75 rfl ?_
    refine xr_iconst dX8_addSpread_76 ?_
    refine xr_cvV (As := [xi v1, xi 1]) dX8_addSpread_77 mi_X5_keep ml_X8_103 se_X5_keep L_27 rfl rfl rfl (Nat.le_of_ble_eq_true rfl) h (fun m8 h => ?_)
    exact xr_ret dX8_addSpread_80 rfl ⟨rfl, rfl, h⟩
  · have h := hF4 (Int.not_lt.mp c)
    refine xr_aload_n dX8_addSpread_45 rfl ?_
    refine xr_getR dX8_addSpread_46 fl_X8_12 L_26 rfl ?_
    refine xr_bipush dX8_addSpread_49 (by decide) ?_
    refine xr_iload dX8_addSpread_51 rfl ?_
    refine xr_iadd dX8_addSpread_53 ?_
    refine xr_cvV (As := [xi (12 + v6)]) dX8_addSpread_54 mi_X5_put ml_X8_100 se_X5_put L_27 rfl rfl rfl (Nat.le_of_ble_eq_true rfl) h (fun m10 h => ?_)
    refine xr_iinc' (ll' := [some (xr G 26), some (xi v1), none, none, none, some (xi v5), some (xi (v6 + 1))]) dX8_addSpread_57 rfl (by decide) rfl rfl ?_
    refine xr_goto (tgt := 38) dX8_addSpread_60 (by decide) ?_
    exact h
theorem dX8_addCut_0 : decode cX8_addCut 0 = .ok (.iconst 1, 1) := by decide +kernel
theorem dX8_addCut_1 : decode cX8_addCut 1 = .ok (.aload_n 0, 1) := by decide +kernel
theorem dX8_addCut_2 : decode cX8_addCut 2 = .ok (.iload 5, 2) := by decide +kernel
theorem dX8_addCut_4 : decode cX8_addCut 4 = .ok (.invokevirtual 179, 3) := by decide +kernel
theorem dX8_addCut_7 : decode cX8_addCut 7 = .ok (.iadd, 1) := by decide +kernel
theorem dX8_addCut_8 : decode cX8_addCut 8 = .ok (.istore 7, 2) := by decide +kernel
theorem dX8_addCut_10 : decode cX8_addCut 10 = .ok (.iload 6, 2) := by decide +kernel
theorem dX8_addCut_12 : decode cX8_addCut 12 = .ok (.ifCond .le 68, 3) := by decide +kernel
theorem dX8_addCut_15 : decode cX8_addCut 15 = .ok (.aload_n 0, 1) := by decide +kernel
theorem dX8_addCut_16 : decode cX8_addCut 16 = .ok (.getfield 12, 3) := by decide +kernel
theorem dX8_addCut_19 : decode cX8_addCut 19 = .ok (.iload_n 1, 1) := by decide +kernel
theorem dX8_addCut_20 : decode cX8_addCut 20 = .ok (.iload 6, 2) := by decide +kernel
theorem dX8_addCut_22 : decode cX8_addCut 22 = .ok (.iload 7, 2) := by decide +kernel
theorem dX8_addCut_24 : decode cX8_addCut 24 = .ok (.invokevirtual 90, 3) := by decide +kernel
theorem dX8_addCut_27 : decode cX8_addCut 27 = .ok (.ifCond .eq 53, 3) := by decide +kernel
theorem dX8_addCut_30 : decode cX8_addCut 30 = .ok (.aload_n 0, 1) := by decide +kernel
theorem dX8_addCut_31 : decode cX8_addCut 31 = .ok (.getfield 12, 3) := by decide +kernel
theorem dX8_addCut_34 : decode cX8_addCut 34 = .ok (.getstatic 176, 3) := by decide +kernel
theorem dX8_addCut_37 : decode cX8_addCut 37 = .ok (.iload_n 2, 1) := by decide +kernel
theorem dX8_addCut_38 : decode cX8_addCut 38 = .ok (.iaload, 1) := by decide +kernel
theorem dX8_addCut_39 : decode cX8_addCut 39 = .ok (.iload_n 3, 1) := by decide +kernel
theorem dX8_addCut_40 : decode cX8_addCut 40 = .ok (.invokevirtual 94, 3) := by decide +kernel
theorem dX8_addCut_43 : decode cX8_addCut 43 = .ok (.aload_n 0, 1) := by decide +kernel
theorem dX8_addCut_44 : decode cX8_addCut 44 = .ok (.getfield 12, 3) := by decide +kernel
theorem dX8_addCut_47 : decode cX8_addCut 47 = .ok (.iconst 1, 1) := by decide +kernel
theorem dX8_addCut_48 : decode cX8_addCut 48 = .ok (.invokevirtual 100, 3) := by decide +kernel
theorem dX8_addCut_51 : decode cX8_addCut 51 = .ok (.aload_n 0, 1) := by decide +kernel
theorem dX8_addCut_52 : decode cX8_addCut 52 = .ok (.getfield 12, 3) := by decide +kernel
theorem dX8_addCut_55 : decode cX8_addCut 55 = .ok (.iload 5, 2) := by decide +kernel
theorem dX8_addCut_57 : decode cX8_addCut 57 = .ok (.iload 4, 2) := by decide +kernel
theorem dX8_addCut_59 : decode cX8_addCut 59 = .ok (.invokevirtual 94, 3) := by decide +kernel
theorem dX8_addCut_62 : decode cX8_addCut 62 = .ok (.aload_n 0, 1) := by decide +kernel
theorem dX8_addCut_63 : decode cX8_addCut 63 = .ok (.getfield 12, 3) := by decide +kernel
theorem dX8_addCut_66 : decode cX8_addCut 66 = .ok (.iconst 2, 1) := by decide +kernel
theorem dX8_addCut_67 : decode cX8_addCut 67 = .ok (.invokevirtual 100, 3) := by decide +kernel
theorem dX8_addCut_70 : decode cX8_addCut 70 = .ok (.aload_n 0, 1) := by decide +kernel
theorem dX8_addCut_71 : decode cX8_addCut 71 = .ok (.getfield 12, 3) := by decide +kernel
theorem dX8_addCut_74 : decode cX8_addCut 74 = .ok (.iload_n 1, 1) := by decide +kernel
theorem dX8_addCut_75 : decode cX8_addCut 75 = .ok (.iload 7, 2) := by decide +kernel
theorem dX8_addCut_77 : decode cX8_addCut 77 = .ok (.invokevirtual 103, 3) := by decide +kernel
theorem dX8_addCut_80 : decode cX8_addCut 80 = .ok (.return_, 1) := by decide +kernel
set_option maxRecDepth 20000 in
theorem E_X8_addCut {G : xG} {l : Launch} {d : Nat} {P : xMem → Prop} {v1 v2 v3 v4 v5 v6 : Int} {μ : xMem} (h : CI G l d mX8_costOf [xr G 26, xi v5] μ (fun r1 m2 => (iR v6 ∧ (v6 ≤ 0 → P m2) ∧ (0 < v6 → CI G l d mX5_offer [xr G 27, xi v1, xi v6, xi (1 + r1)] m2 (fun r6 m7 => ((r6 = 0 → P m7) ∧ (r6 ≠ 0 → ((0 ≤ v2 ∧ v2 < 10) ∧ CV G l d mX5_putWord [xr G 27, xi (xPS (v2).toNat), xi v3] m7 (fun m12 => CV G l d mX5_put [xr G 27, xi 1] m12 (fun m14 => CV G l d mX5_putWord [xr G 27, xi v5, xi v4] m14 (fun m16 => CV G l d mX5_put [xr G 27, xi 2] m16 (fun m18 => CV G l d mX5_keep [xr G 27, xi v1, xi (1 + r1)] m18 (fun m20 => P m20))))))))))))) : CV G l (d + 1) mX8_addCut [xr G 26, xi v1, xi v2, xi v3, xi v4, xi v5, xi v6] μ P := by
  refine CC.ofRR (ll := [some (xr G 26), some (xi v1), some (xi v2), some (xi v3), some (xi v4), some (xi v5), some (xi v6), none]) (by decide +kernel) (Nat.le_of_ble_eq_true rfl) rfl (fun h => by cases h) ?_
  refine xr_iconst dX8_addCut_0 ?_
  refine xr_aload_n dX8_addCut_1 rfl ?_
  refine xr_iload dX8_addCut_2 rfl ?_
  refine xr_cvI (As := [xi v5]) dX8_addCut_4 mi_X8_costOf ml_X8_179 se_X8_costOf L_26 rfl rfl rfl (Nat.le_of_ble_eq_true rfl) h (fun r1 m2 hr1 h => ?_)
  refine xr_iadd dX8_addCut_7 ?_
  refine xr_istore' (ll' := [some (xr G 26), some (xi v1), some (xi v2), some (xi v3), some (xi v4), some (xi v5), some (xi v6), some (xi (1 + r1))]) dX8_addCut_8 (by decide) rfl rfl ?_
  refine xr_iload dX8_addCut_10 rfl ?_
  obtain ⟨q3, hT4, hF5⟩ := h
  refine xr_if_le (tgt := 80) dX8_addCut_12 (by decide) q3  (fun c => ?_) (fun c => ?_)
  · have h := hT4 c
    exact xr_ret dX8_addCut_80 rfl ⟨rfl, rfl, h⟩
  · have h := hF5 (Int.not_le.mp c)
    refine xr_aload_n dX8_addCut_15 rfl ?_
    refine xr_getR dX8_addCut_16 fl_X8_12 L_26 rfl ?_
    refine xr_iload_n dX8_addCut_19 rfl ?_
    refine xr_iload dX8_addCut_20 rfl ?_
    refine xr_iload dX8_addCut_22 rfl ?_
    refine xr_cvI (As := [xi v1, xi v6, xi (1 + r1)]) dX8_addCut_24 mi_X5_offer ml_X8_90 se_X5_offer L_27 rfl rfl rfl (Nat.le_of_ble_eq_true rfl) h (fun r6 m7 hr6 h => ?_)
    obtain ⟨hT8, hF9⟩ := h
    refine xr_if_eq (tgt := 80) dX8_addCut_27 (by decide) hr6  (fun c => ?_) (fun c => ?_)
    · have h := hT8 c
      exact xr_ret dX8_addCut_80 rfl ⟨rfl, rfl, h⟩
    · have h := hF9 c
      refine xr_aload_n dX8_addCut_30 rfl ?_
      refine xr_getR dX8_addCut_31 fl_X8_12 L_26 rfl ?_
      refine xr_ps dX8_addCut_34 fs_X8_176 ?_
      refine xr_iload_n dX8_addCut_37 rfl ?_
      obtain ⟨q10, h⟩ := h
      refine xr_psld dX8_addCut_38 q10 ?_
      refine xr_iload_n dX8_addCut_39 rfl ?_
      refine xr_cvV (As := [xi (xPS (v2).toNat), xi v3]) dX8_addCut_40 mi_X5_putWord ml_X8_94 se_X5_putWord L_27 rfl rfl rfl (Nat.le_of_ble_eq_true rfl) h (fun m12 h => ?_)
      refine xr_aload_n dX8_addCut_43 rfl ?_
      refine xr_getR dX8_addCut_44 fl_X8_12 L_26 rfl ?_
      refine xr_iconst dX8_addCut_47 ?_
      refine xr_cvV (As := [xi 1]) dX8_addCut_48 mi_X5_put ml_X8_100 se_X5_put L_27 rfl rfl rfl (Nat.le_of_ble_eq_true rfl) h (fun m14 h => ?_)
      refine xr_aload_n dX8_addCut_51 rfl ?_
      refine xr_getR dX8_addCut_52 fl_X8_12 L_26 rfl ?_
      refine xr_iload dX8_addCut_55 rfl ?_
      refine xr_iload dX8_addCut_57 rfl ?_
      refine xr_cvV (As := [xi v5, xi v4]) dX8_addCut_59 mi_X5_putWord ml_X8_94 se_X5_putWord L_27 rfl rfl rfl (Nat.le_of_ble_eq_true rfl) h (fun m16 h => ?_)
      refine xr_aload_n dX8_addCut_62 rfl ?_
      refine xr_getR dX8_addCut_63 fl_X8_12 L_26 rfl ?_
      refine xr_iconst dX8_addCut_66 ?_
      refine xr_cvV (As := [xi 2]) dX8_addCut_67 mi_X5_put ml_X8_100 se_X5_put L_27 rfl rfl rfl (Nat.le_of_ble_eq_true rfl) h (fun m18 h => ?_)
      refine xr_aload_n dX8_addCut_70 rfl ?_
      refine xr_getR dX8_addCut_71 fl_X8_12 L_26 rfl ?_
      refine xr_iload_n dX8_addCut_74 rfl ?_
      refine xr_iload dX8_addCut_75 rfl ?_
      refine xr_cvV (As := [xi v1, xi (1 + r1)]) dX8_addCut_77 mi_X5_keep ml_X8_103 se_X5_keep L_27 rfl rfl rfl (Nat.le_of_ble_eq_true rfl) h (fun m20 h => ?_)
      exact xr_ret dX8_addCut_80 rfl ⟨rfl, rfl, h⟩
theorem dX8_costOf_0 : decode cX8_costOf 0 = .ok (.iload_n 1, 1) := by decide +kernel
theorem dX8_costOf_1 : decode cX8_costOf 1 = .ok (.bipush 28, 2) := by decide +kernel
theorem dX8_costOf_3 : decode cX8_costOf 3 = .ok (.if_icmp .ne 7, 3) := by decide +kernel
theorem dX8_costOf_6 : decode cX8_costOf 6 = .ok (.iconst 2, 1) := by decide +kernel
theorem dX8_costOf_7 : decode cX8_costOf 7 = .ok (.goto 4, 3) := by decide +kernel
theorem dX8_costOf_10 : decode cX8_costOf 10 = .ok (.iconst 1, 1) := by decide +kernel
theorem dX8_costOf_11 : decode cX8_costOf 11 = .ok (.ireturn, 1) := by decide +kernel
set_option maxRecDepth 20000 in
theorem E_X8_costOf {G : xG} {l : Launch} {d : Nat} {P : Int → xMem → Prop} {v1 : Int} {μ : xMem} (h : (iR v1 ∧ (v1 ≠ 28 → P 1 μ) ∧ (v1 = 28 → P 2 μ))) : CI G l (d + 1) mX8_costOf [xr G 26, xi v1] μ P := by
  refine CC.ofRR (ll := [some (xr G 26), some (xi v1)]) (by decide +kernel) (Nat.le_of_ble_eq_true rfl) rfl (fun h => by cases h) ?_
  refine xr_iload_n dX8_costOf_0 rfl ?_
  refine xr_bipush dX8_costOf_1 (by decide) ?_
  obtain ⟨q1, hT2, hF3⟩ := h
  refine xr_icmp_ne (tgt := 10) dX8_costOf_3 (by decide) q1 (by decide) (fun c => ?_) (fun c => ?_)
  · have h := hT2 c
    refine xr_iconst dX8_costOf_10 ?_
    exact xr_iret dX8_costOf_11 rfl ⟨rfl, _, rfl, (by decide), h⟩
  · have h := hF3 c
    refine xr_iconst dX8_costOf_6 ?_
    refine xr_goto (tgt := 11) dX8_costOf_7 (by decide) ?_
    exact xr_iret dX8_costOf_11 rfl ⟨rfl, _, rfl, (by decide), h⟩
theorem dX8_addTurned_0 : decode cX8_addTurned 0 = .ok (.iconst 1, 1) := by decide +kernel
theorem dX8_addTurned_1 : decode cX8_addTurned 1 = .ok (.aload_n 0, 1) := by decide +kernel
theorem dX8_addTurned_2 : decode cX8_addTurned 2 = .ok (.getfield 12, 3) := by decide +kernel
theorem dX8_addTurned_5 : decode cX8_addTurned 5 = .ok (.getfield 75, 3) := by decide +kernel
theorem dX8_addTurned_8 : decode cX8_addTurned 8 = .ok (.iload_n 3, 1) := by decide +kernel
theorem dX8_addTurned_9 : decode cX8_addTurned 9 = .ok (.iaload, 1) := by decide +kernel
theorem dX8_addTurned_10 : decode cX8_addTurned 10 = .ok (.iadd, 1) := by decide +kernel
theorem dX8_addTurned_11 : decode cX8_addTurned 11 = .ok (.istore 4, 2) := by decide +kernel
theorem dX8_addTurned_13 : decode cX8_addTurned 13 = .ok (.aload_n 0, 1) := by decide +kernel
theorem dX8_addTurned_14 : decode cX8_addTurned 14 = .ok (.getfield 12, 3) := by decide +kernel
theorem dX8_addTurned_17 : decode cX8_addTurned 17 = .ok (.getfield 71, 3) := by decide +kernel
theorem dX8_addTurned_20 : decode cX8_addTurned 20 = .ok (.iload_n 3, 1) := by decide +kernel
theorem dX8_addTurned_21 : decode cX8_addTurned 21 = .ok (.iaload, 1) := by decide +kernel
theorem dX8_addTurned_22 : decode cX8_addTurned 22 = .ok (.ifCond .le 72, 3) := by decide +kernel
theorem dX8_addTurned_25 : decode cX8_addTurned 25 = .ok (.aload_n 0, 1) := by decide +kernel
theorem dX8_addTurned_26 : decode cX8_addTurned 26 = .ok (.getfield 12, 3) := by decide +kernel
theorem dX8_addTurned_29 : decode cX8_addTurned 29 = .ok (.iload_n 1, 1) := by decide +kernel
theorem dX8_addTurned_30 : decode cX8_addTurned 30 = .ok (.aload_n 0, 1) := by decide +kernel
theorem dX8_addTurned_31 : decode cX8_addTurned 31 = .ok (.getfield 12, 3) := by decide +kernel
theorem dX8_addTurned_34 : decode cX8_addTurned 34 = .ok (.getfield 71, 3) := by decide +kernel
theorem dX8_addTurned_37 : decode cX8_addTurned 37 = .ok (.iload_n 3, 1) := by decide +kernel
theorem dX8_addTurned_38 : decode cX8_addTurned 38 = .ok (.iaload, 1) := by decide +kernel
theorem dX8_addTurned_39 : decode cX8_addTurned 39 = .ok (.iload 4, 2) := by decide +kernel
theorem dX8_addTurned_41 : decode cX8_addTurned 41 = .ok (.invokevirtual 90, 3) := by decide +kernel
theorem dX8_addTurned_44 : decode cX8_addTurned 44 = .ok (.ifCond .eq 50, 3) := by decide +kernel
theorem dX8_addTurned_47 : decode cX8_addTurned 47 = .ok (.aload_n 0, 1) := by decide +kernel
theorem dX8_addTurned_48 : decode cX8_addTurned 48 = .ok (.getfield 12, 3) := by decide +kernel
theorem dX8_addTurned_51 : decode cX8_addTurned 51 = .ok (.getstatic 176, 3) := by decide +kernel
theorem dX8_addTurned_54 : decode cX8_addTurned 54 = .ok (.iconst 4, 1) := by decide +kernel
theorem dX8_addTurned_55 : decode cX8_addTurned 55 = .ok (.iaload, 1) := by decide +kernel
theorem dX8_addTurned_56 : decode cX8_addTurned 56 = .ok (.iload_n 2, 1) := by decide +kernel
theorem dX8_addTurned_57 : decode cX8_addTurned 57 = .ok (.invokevirtual 94, 3) := by decide +kernel
theorem dX8_addTurned_60 : decode cX8_addTurned 60 = .ok (.aload_n 0, 1) := by decide +kernel
theorem dX8_addTurned_61 : decode cX8_addTurned 61 = .ok (.getfield 12, 3) := by decide +kernel
theorem dX8_addTurned_64 : decode cX8_addTurned 64 = .ok (.iconst 1, 1) := by decide +kernel
theorem dX8_addTurned_65 : decode cX8_addTurned 65 = .ok (.invokevirtual 100, 3) := by decide +kernel
theorem dX8_addTurned_68 : decode cX8_addTurned 68 = .ok (.aload_n 0, 1) := by decide +kernel
theorem dX8_addTurned_69 : decode cX8_addTurned 69 = .ok (.getfield 12, 3) := by decide +kernel
theorem dX8_addTurned_72 : decode cX8_addTurned 72 = .ok (.iload_n 3, 1) := by decide +kernel
theorem dX8_addTurned_73 : decode cX8_addTurned 73 = .ok (.invokevirtual 106, 3) := by decide +kernel
theorem dX8_addTurned_76 : decode cX8_addTurned 76 = .ok (.aload_n 0, 1) := by decide +kernel
theorem dX8_addTurned_77 : decode cX8_addTurned 77 = .ok (.getfield 12, 3) := by decide +kernel
theorem dX8_addTurned_80 : decode cX8_addTurned 80 = .ok (.iconst 2, 1) := by decide +kernel
theorem dX8_addTurned_81 : decode cX8_addTurned 81 = .ok (.invokevirtual 100, 3) := by decide +kernel
theorem dX8_addTurned_84 : decode cX8_addTurned 84 = .ok (.aload_n 0, 1) := by decide +kernel
theorem dX8_addTurned_85 : decode cX8_addTurned 85 = .ok (.getfield 12, 3) := by decide +kernel
theorem dX8_addTurned_88 : decode cX8_addTurned 88 = .ok (.iload_n 1, 1) := by decide +kernel
theorem dX8_addTurned_89 : decode cX8_addTurned 89 = .ok (.iload 4, 2) := by decide +kernel
theorem dX8_addTurned_91 : decode cX8_addTurned 91 = .ok (.invokevirtual 103, 3) := by decide +kernel
theorem dX8_addTurned_94 : decode cX8_addTurned 94 = .ok (.return_, 1) := by decide +kernel
set_option maxRecDepth 20000 in
theorem E_X8_addTurned {G : xG} {l : Launch} {d : Nat} {P : xMem → Prop} {v1 v2 v3 : Int} {μ : xMem} (h : ((0 ≤ v3 ∧ v3 < 7922) ∧ (iR (μ 29 v3) ∧ ((μ 29 v3) ≤ 0 → P μ) ∧ (0 < (μ 29 v3) → CI G l d mX5_offer [xr G 27, xi v1, xi (μ 29 v3), xi (1 + (μ 30 v3))] μ (fun r5 m6 => ((r5 = 0 → P m6) ∧ (r5 ≠ 0 → CV G l d mX5_putWord [xr G 27, xi 31, xi v2] m6 (fun m10 => CV G l d mX5_put [xr G 27, xi 1] m10 (fun m12 => CV G l d mX5_putName [xr G 27, xi v3] m12 (fun m14 => CV G l d mX5_put [xr G 27, xi 2] m14 (fun m16 => CV G l d mX5_keep [xr G 27, xi v1, xi (1 + (μ 30 v3))] m16 (fun m18 => P m18)))))))))))) : CV G l (d + 1) mX8_addTurned [xr G 26, xi v1, xi v2, xi v3] μ P := by
  refine CC.ofRR (ll := [some (xr G 26), some (xi v1), some (xi v2), some (xi v3), none]) (by decide +kernel) (Nat.le_of_ble_eq_true rfl) rfl (fun h => by cases h) ?_
  refine xr_iconst dX8_addTurned_0 ?_
  refine xr_aload_n dX8_addTurned_1 rfl ?_
  refine xr_getR dX8_addTurned_2 fl_X8_12 L_26 rfl ?_
  refine xr_getR dX8_addTurned_5 fl_X8_75 L_27 rfl ?_
  refine xr_iload_n dX8_addTurned_8 rfl ?_
  obtain ⟨q1, h⟩ := h
  refine xr_iaload' (v := μ 30 v3) dX8_addTurned_9 L_30 rfl (by decide) q1 rfl ?_
  refine xr_iadd dX8_addTurned_10 ?_
  refine xr_istore' (ll' := [some (xr G 26), some (xi v1), some (xi v2), some (xi v3), some (xi (1 + (μ 30 v3)))]) dX8_addTurned_11 (by decide) rfl rfl ?_
  refine xr_aload_n dX8_addTurned_13 rfl ?_
  refine xr_getR dX8_addTurned_14 fl_X8_12 L_26 rfl ?_
  refine xr_getR dX8_addTurned_17 fl_X8_71 L_27 rfl ?_
  refine xr_iload_n dX8_addTurned_20 rfl ?_
  refine xr_iaload' (v := μ 29 v3) dX8_addTurned_21 L_29 rfl (by decide) q1 rfl ?_
  obtain ⟨q2, hT3, hF4⟩ := h
  refine xr_if_le (tgt := 94) dX8_addTurned_22 (by decide) q2  (fun c => ?_) (fun c => ?_)
  · have h := hT3 c
    exact xr_ret dX8_addTurned_94 rfl ⟨rfl, rfl, h⟩
  · have h := hF4 (Int.not_le.mp c)
    refine xr_aload_n dX8_addTurned_25 rfl ?_
    refine xr_getR dX8_addTurned_26 fl_X8_12 L_26 rfl ?_
    refine xr_iload_n dX8_addTurned_29 rfl ?_
    refine xr_aload_n dX8_addTurned_30 rfl ?_
    refine xr_getR dX8_addTurned_31 fl_X8_12 L_26 rfl ?_
    refine xr_getR dX8_addTurned_34 fl_X8_71 L_27 rfl ?_
    refine xr_iload_n dX8_addTurned_37 rfl ?_
    refine xr_iaload' (v := μ 29 v3) dX8_addTurned_38 L_29 rfl (by decide) q1 rfl ?_
    refine xr_iload dX8_addTurned_39 rfl ?_
    refine xr_cvI (As := [xi v1, xi (μ 29 v3), xi (1 + (μ 30 v3))]) dX8_addTurned_41 mi_X5_offer ml_X8_90 se_X5_offer L_27 rfl rfl rfl (Nat.le_of_ble_eq_true rfl) h (fun r5 m6 hr5 h => ?_)
    obtain ⟨hT7, hF8⟩ := h
    refine xr_if_eq (tgt := 94) dX8_addTurned_44 (by decide) hr5  (fun c => ?_) (fun c => ?_)
    · have h := hT7 c
      exact xr_ret dX8_addTurned_94 rfl ⟨rfl, rfl, h⟩
    · have h := hF8 c
      refine xr_aload_n dX8_addTurned_47 rfl ?_
      refine xr_getR dX8_addTurned_48 fl_X8_12 L_26 rfl ?_
      refine xr_ps dX8_addTurned_51 fs_X8_176 ?_
      refine xr_iconst dX8_addTurned_54 ?_
      refine xr_psld dX8_addTurned_55 (by decide) ?_
      refine xr_iload_n dX8_addTurned_56 rfl ?_
      refine xr_cvV (As := [xi 31, xi v2]) dX8_addTurned_57 mi_X5_putWord ml_X8_94 se_X5_putWord L_27 rfl rfl rfl (Nat.le_of_ble_eq_true rfl) h (fun m10 h => ?_)
      refine xr_aload_n dX8_addTurned_60 rfl ?_
      refine xr_getR dX8_addTurned_61 fl_X8_12 L_26 rfl ?_
      refine xr_iconst dX8_addTurned_64 ?_
      refine xr_cvV (As := [xi 1]) dX8_addTurned_65 mi_X5_put ml_X8_100 se_X5_put L_27 rfl rfl rfl (Nat.le_of_ble_eq_true rfl) h (fun m12 h => ?_)
      refine xr_aload_n dX8_addTurned_68 rfl ?_
      refine xr_getR dX8_addTurned_69 fl_X8_12 L_26 rfl ?_
      refine xr_iload_n dX8_addTurned_72 rfl ?_
      refine xr_cvV (As := [xi v3]) dX8_addTurned_73 mi_X5_putName ml_X8_106 se_X5_putName L_27 rfl rfl rfl (Nat.le_of_ble_eq_true rfl) h (fun m14 h => ?_)
      refine xr_aload_n dX8_addTurned_76 rfl ?_
      refine xr_getR dX8_addTurned_77 fl_X8_12 L_26 rfl ?_
      refine xr_iconst dX8_addTurned_80 ?_
      refine xr_cvV (As := [xi 2]) dX8_addTurned_81 mi_X5_put ml_X8_100 se_X5_put L_27 rfl rfl rfl (Nat.le_of_ble_eq_true rfl) h (fun m16 h => ?_)
      refine xr_aload_n dX8_addTurned_84 rfl ?_
      refine xr_getR dX8_addTurned_85 fl_X8_12 L_26 rfl ?_
      refine xr_iload_n dX8_addTurned_88 rfl ?_
      refine xr_iload dX8_addTurned_89 rfl ?_
      refine xr_cvV (As := [xi v1, xi (1 + (μ 30 v3))]) dX8_addTurned_91 mi_X5_keep ml_X8_103 se_X5_keep L_27 rfl rfl rfl (Nat.le_of_ble_eq_true rfl) h (fun m18 h => ?_)
      exact xr_ret dX8_addTurned_94 rfl ⟨rfl, rfl, h⟩
theorem dX8_addPutIn_0 : decode cX8_addPutIn 0 = .ok (.aload_n 0, 1) := by decide +kernel
theorem dX8_addPutIn_1 : decode cX8_addPutIn 1 = .ok (.getfield 12, 3) := by decide +kernel
theorem dX8_addPutIn_4 : decode cX8_addPutIn 4 = .ok (.iconst 2, 1) := by decide +kernel
theorem dX8_addPutIn_5 : decode cX8_addPutIn 5 = .ok (.iload_n 1, 1) := by decide +kernel
theorem dX8_addPutIn_6 : decode cX8_addPutIn 6 = .ok (.iadd, 1) := by decide +kernel
theorem dX8_addPutIn_7 : decode cX8_addPutIn 7 = .ok (.iload_n 2, 1) := by decide +kernel
theorem dX8_addPutIn_8 : decode cX8_addPutIn 8 = .ok (.iload_n 3, 1) := by decide +kernel
theorem dX8_addPutIn_9 : decode cX8_addPutIn 9 = .ok (.iload 4, 2) := by decide +kernel
theorem dX8_addPutIn_11 : decode cX8_addPutIn 11 = .ok (.iload 5, 2) := by decide +kernel
theorem dX8_addPutIn_13 : decode cX8_addPutIn 13 = .ok (.invokevirtual 109, 3) := by decide +kernel
theorem dX8_addPutIn_16 : decode cX8_addPutIn 16 = .ok (.istore 8, 2) := by decide +kernel
theorem dX8_addPutIn_18 : decode cX8_addPutIn 18 = .ok (.iload 6, 2) := by decide +kernel
theorem dX8_addPutIn_20 : decode cX8_addPutIn 20 = .ok (.bipush 7, 2) := by decide +kernel
theorem dX8_addPutIn_22 : decode cX8_addPutIn 22 = .ok (.if_icmp .ne 7, 3) := by decide +kernel
theorem dX8_addPutIn_25 : decode cX8_addPutIn 25 = .ok (.iload_n 3, 1) := by decide +kernel
theorem dX8_addPutIn_26 : decode cX8_addPutIn 26 = .ok (.goto 4, 3) := by decide +kernel
theorem dX8_addPutIn_29 : decode cX8_addPutIn 29 = .ok (.iload_n 2, 1) := by decide +kernel
theorem dX8_addPutIn_30 : decode cX8_addPutIn 30 = .ok (.istore 9, 2) := by decide +kernel
theorem dX8_addPutIn_32 : decode cX8_addPutIn 32 = .ok (.iload 6, 2) := by decide +kernel
theorem dX8_addPutIn_34 : decode cX8_addPutIn 34 = .ok (.bipush 7, 2) := by decide +kernel
theorem dX8_addPutIn_36 : decode cX8_addPutIn 36 = .ok (.if_icmp .ne 7, 3) := by decide +kernel
theorem dX8_addPutIn_39 : decode cX8_addPutIn 39 = .ok (.iload_n 2, 1) := by decide +kernel
theorem dX8_addPutIn_40 : decode cX8_addPutIn 40 = .ok (.goto 6, 3) := by decide +kernel
theorem dX8_addPutIn_43 : decode cX8_addPutIn 43 = .ok (.iload_n 2, 1) := by decide +kernel
theorem dX8_addPutIn_44 : decode cX8_addPutIn 44 = .ok (.iconst 2, 1) := by decide +kernel
theorem dX8_addPutIn_45 : decode cX8_addPutIn 45 = .ok (.iadd, 1) := by decide +kernel
theorem dX8_addPutIn_46 : decode cX8_addPutIn 46 = .ok (.istore 10, 2) := by decide +kernel
theorem dX8_addPutIn_48 : decode cX8_addPutIn 48 = .ok (.iload 6, 2) := by decide +kernel
theorem dX8_addPutIn_50 : decode cX8_addPutIn 50 = .ok (.bipush 7, 2) := by decide +kernel
theorem dX8_addPutIn_52 : decode cX8_addPutIn 52 = .ok (.if_icmp .ne 9, 3) := by decide +kernel
theorem dX8_addPutIn_55 : decode cX8_addPutIn 55 = .ok (.iload_n 3, 1) := by decide +kernel
theorem dX8_addPutIn_56 : decode cX8_addPutIn 56 = .ok (.iconst 2, 1) := by decide +kernel
theorem dX8_addPutIn_57 : decode cX8_addPutIn 57 = .ok (.isub, 1) := by decide +kernel
theorem dX8_addPutIn_58 : decode cX8_addPutIn 58 = .ok (.goto 4, 3) := by decide +kernel
theorem dX8_addPutIn_61 : decode cX8_addPutIn 61 = .ok (.iload_n 3, 1) := by decide +kernel
theorem dX8_addPutIn_62 : decode cX8_addPutIn 62 = .ok (.istore 11, 2) := by decide +kernel
theorem dX8_addPutIn_64 : decode cX8_addPutIn 64 = .ok (.iload 4, 2) := by decide +kernel
theorem dX8_addPutIn_66 : decode cX8_addPutIn 66 = .ok (.iconst 1, 1) := by decide +kernel
theorem dX8_addPutIn_67 : decode cX8_addPutIn 67 = .ok (.iadd, 1) := by decide +kernel
theorem dX8_addPutIn_68 : decode cX8_addPutIn 68 = .ok (.istore 12, 2) := by decide +kernel
theorem dX8_addPutIn_70 : decode cX8_addPutIn 70 = .ok (.iload 12, 2) := by decide +kernel
theorem dX8_addPutIn_72 : decode cX8_addPutIn 72 = .ok (.iload 5, 2) := by decide +kernel
theorem dX8_addPutIn_74 : decode cX8_addPutIn 74 = .ok (.iconst 1, 1) := by decide +kernel
theorem dX8_addPutIn_75 : decode cX8_addPutIn 75 = .ok (.isub, 1) := by decide +kernel
theorem dX8_addPutIn_76 : decode cX8_addPutIn 76 = .ok (.if_icmp .ge 174, 3) := by decide +kernel
theorem dX8_addPutIn_79 : decode cX8_addPutIn 79 = .ok (.aload_n 0, 1) := by decide +kernel
theorem dX8_addPutIn_80 : decode cX8_addPutIn 80 = .ok (.getfield 12, 3) := by decide +kernel
theorem dX8_addPutIn_83 : decode cX8_addPutIn 83 = .ok (.iload 8, 2) := by decide +kernel
theorem dX8_addPutIn_85 : decode cX8_addPutIn 85 = .ok (.invokevirtual 64, 3) := by decide +kernel
theorem dX8_addPutIn_88 : decode cX8_addPutIn 88 = .ok (.ifCond .ne 162, 3) := by decide +kernel
theorem dX8_addPutIn_91 : decode cX8_addPutIn 91 = .ok (.iload 12, 2) := by decide +kernel
theorem dX8_addPutIn_93 : decode cX8_addPutIn 93 = .ok (.iconst 1, 1) := by decide +kernel
theorem dX8_addPutIn_94 : decode cX8_addPutIn 94 = .ok (.iadd, 1) := by decide +kernel
theorem dX8_addPutIn_95 : decode cX8_addPutIn 95 = .ok (.istore 13, 2) := by decide +kernel
theorem dX8_addPutIn_97 : decode cX8_addPutIn 97 = .ok (.iload 13, 2) := by decide +kernel
theorem dX8_addPutIn_99 : decode cX8_addPutIn 99 = .ok (.iload 5, 2) := by decide +kernel
theorem dX8_addPutIn_101 : decode cX8_addPutIn 101 = .ok (.if_icmp .ge 143, 3) := by decide +kernel
theorem dX8_addPutIn_104 : decode cX8_addPutIn 104 = .ok (.aload_n 0, 1) := by decide +kernel
theorem dX8_addPutIn_105 : decode cX8_addPutIn 105 = .ok (.getfield 12, 3) := by decide +kernel
theorem dX8_addPutIn_108 : decode cX8_addPutIn 108 = .ok (.iload 8, 2) := by decide +kernel
theorem dX8_addPutIn_110 : decode cX8_addPutIn 110 = .ok (.invokevirtual 64, 3) := by decide +kernel
theorem dX8_addPutIn_113 : decode cX8_addPutIn 113 = .ok (.ifCond .ne 131, 3) := by decide +kernel
theorem dX8_addPutIn_116 : decode cX8_addPutIn 116 = .ok (.aload_n 0, 1) := by decide +kernel
theorem dX8_addPutIn_117 : decode cX8_addPutIn 117 = .ok (.getfield 23, 3) := by decide +kernel
theorem dX8_addPutIn_120 : decode cX8_addPutIn 120 = .ok (.iload_n 1, 1) := by decide +kernel
theorem dX8_addPutIn_121 : decode cX8_addPutIn 121 = .ok (.iload 4, 2) := by decide +kernel
theorem dX8_addPutIn_123 : decode cX8_addPutIn 123 = .ok (.iload 12, 2) := by decide +kernel
theorem dX8_addPutIn_125 : decode cX8_addPutIn 125 = .ok (.iload 13, 2) := by decide +kernel
theorem dX8_addPutIn_127 : decode cX8_addPutIn 127 = .ok (.iload 5, 2) := by decide +kernel
theorem dX8_addPutIn_129 : decode cX8_addPutIn 129 = .ok (.invokevirtual 132, 3) := by decide +kernel
theorem dX8_addPutIn_132 : decode cX8_addPutIn 132 = .ok (.aload_n 0, 1) := by decide +kernel
theorem dX8_addPutIn_133 : decode cX8_addPutIn 133 = .ok (.getfield 23, 3) := by decide +kernel
theorem dX8_addPutIn_136 : decode cX8_addPutIn 136 = .ok (.iload 9, 2) := by decide +kernel
theorem dX8_addPutIn_138 : decode cX8_addPutIn 138 = .ok (.iconst 0, 1) := by decide +kernel
theorem dX8_addPutIn_139 : decode cX8_addPutIn 139 = .ok (.iconst 0, 1) := by decide +kernel
theorem dX8_addPutIn_140 : decode cX8_addPutIn 140 = .ok (.invokevirtual 150, 3) := by decide +kernel
theorem dX8_addPutIn_143 : decode cX8_addPutIn 143 = .ok (.istore 14, 2) := by decide +kernel
theorem dX8_addPutIn_145 : decode cX8_addPutIn 145 = .ok (.aload_n 0, 1) := by decide +kernel
theorem dX8_addPutIn_146 : decode cX8_addPutIn 146 = .ok (.getfield 23, 3) := by decide +kernel
theorem dX8_addPutIn_149 : decode cX8_addPutIn 149 = .ok (.iload 9, 2) := by decide +kernel
theorem dX8_addPutIn_151 : decode cX8_addPutIn 151 = .ok (.iconst 0, 1) := by decide +kernel
theorem dX8_addPutIn_152 : decode cX8_addPutIn 152 = .ok (.iconst 0, 1) := by decide +kernel
theorem dX8_addPutIn_153 : decode cX8_addPutIn 153 = .ok (.invokevirtual 153, 3) := by decide +kernel
theorem dX8_addPutIn_156 : decode cX8_addPutIn 156 = .ok (.istore 15, 2) := by decide +kernel
theorem dX8_addPutIn_158 : decode cX8_addPutIn 158 = .ok (.iload 14, 2) := by decide +kernel
theorem dX8_addPutIn_160 : decode cX8_addPutIn 160 = .ok (.ifCond .ne 11, 3) := by decide +kernel
theorem dX8_addPutIn_163 : decode cX8_addPutIn 163 = .ok (.iload 15, 2) := by decide +kernel
theorem dX8_addPutIn_165 : decode cX8_addPutIn 165 = .ok (.ifCond .ne 6, 3) := by decide +kernel
theorem dX8_addPutIn_168 : decode cX8_addPutIn 168 = .ok (.goto 70, 3) := by decide +kernel
theorem dX8_addPutIn_171 : decode cX8_addPutIn 171 = .ok (.aload_n 0, 1) := by decide +kernel
theorem dX8_addPutIn_172 : decode cX8_addPutIn 172 = .ok (.iload_n 1, 1) := by decide +kernel
theorem dX8_addPutIn_173 : decode cX8_addPutIn 173 = .ok (.iload 10, 2) := by decide +kernel
theorem dX8_addPutIn_175 : decode cX8_addPutIn 175 = .ok (.iload 11, 2) := by decide +kernel
theorem dX8_addPutIn_177 : decode cX8_addPutIn 177 = .ok (.iload 12, 2) := by decide +kernel
theorem dX8_addPutIn_179 : decode cX8_addPutIn 179 = .ok (.iload 13, 2) := by decide +kernel
theorem dX8_addPutIn_181 : decode cX8_addPutIn 181 = .ok (.iload 7, 2) := by decide +kernel
theorem dX8_addPutIn_183 : decode cX8_addPutIn 183 = .ok (.iconst 1, 1) := by decide +kernel
theorem dX8_addPutIn_184 : decode cX8_addPutIn 184 = .ok (.iadd, 1) := by decide +kernel
theorem dX8_addPutIn_185 : decode cX8_addPutIn 185 = .ok (.invokevirtual 53, 3) := by decide +kernel
theorem dX8_addPutIn_188 : decode cX8_addPutIn 188 = .ok (.istore 16, 2) := by decide +kernel
theorem dX8_addPutIn_190 : decode cX8_addPutIn 190 = .ok (.iload 14, 2) := by decide +kernel
theorem dX8_addPutIn_192 : decode cX8_addPutIn 192 = .ok (.ifCond .eq 22, 3) := by decide +kernel
theorem dX8_addPutIn_195 : decode cX8_addPutIn 195 = .ok (.aload_n 0, 1) := by decide +kernel
theorem dX8_addPutIn_196 : decode cX8_addPutIn 196 = .ok (.iload 8, 2) := by decide +kernel
theorem dX8_addPutIn_198 : decode cX8_addPutIn 198 = .ok (.iload 6, 2) := by decide +kernel
theorem dX8_addPutIn_200 : decode cX8_addPutIn 200 = .ok (.iload 16, 2) := by decide +kernel
theorem dX8_addPutIn_202 : decode cX8_addPutIn 202 = .ok (.iload 12, 2) := by decide +kernel
theorem dX8_addPutIn_204 : decode cX8_addPutIn 204 = .ok (.iload 4, 2) := by decide +kernel
theorem dX8_addPutIn_206 : decode cX8_addPutIn 206 = .ok (.isub, 1) := by decide +kernel
theorem dX8_addPutIn_207 : decode cX8_addPutIn 207 = .ok (.bipush 28, 2) := by decide +kernel
theorem dX8_addPutIn_209 : decode cX8_addPutIn 209 = .ok (.iload 9, 2) := by decide +kernel
theorem dX8_addPutIn_211 : decode cX8_addPutIn 211 = .ok (.invokevirtual 183, 3) := by decide +kernel
theorem dX8_addPutIn_214 : decode cX8_addPutIn 214 = .ok (.iload 15, 2) := by decide +kernel
theorem dX8_addPutIn_216 : decode cX8_addPutIn 216 = .ok (.ifCond .le 22, 3) := by decide +kernel
theorem dX8_addPutIn_219 : decode cX8_addPutIn 219 = .ok (.aload_n 0, 1) := by decide +kernel
theorem dX8_addPutIn_220 : decode cX8_addPutIn 220 = .ok (.iload 8, 2) := by decide +kernel
theorem dX8_addPutIn_222 : decode cX8_addPutIn 222 = .ok (.iload 6, 2) := by decide +kernel
theorem dX8_addPutIn_224 : decode cX8_addPutIn 224 = .ok (.iload 16, 2) := by decide +kernel
theorem dX8_addPutIn_226 : decode cX8_addPutIn 226 = .ok (.iload 12, 2) := by decide +kernel
theorem dX8_addPutIn_228 : decode cX8_addPutIn 228 = .ok (.iload 4, 2) := by decide +kernel
theorem dX8_addPutIn_230 : decode cX8_addPutIn 230 = .ok (.isub, 1) := by decide +kernel
theorem dX8_addPutIn_231 : decode cX8_addPutIn 231 = .ok (.bipush 29, 2) := by decide +kernel
theorem dX8_addPutIn_233 : decode cX8_addPutIn 233 = .ok (.iload 9, 2) := by decide +kernel
theorem dX8_addPutIn_235 : decode cX8_addPutIn 235 = .ok (.invokevirtual 183, 3) := by decide +kernel
theorem dX8_addPutIn_238 : decode cX8_addPutIn 238 = .ok (.iinc 13 1, 3) := by decide +kernel
theorem dX8_addPutIn_241 : decode cX8_addPutIn 241 = .ok (.goto (-144), 3) := by decide +kernel
theorem dX8_addPutIn_244 : decode cX8_addPutIn 244 = .ok (.iinc 12 1, 3) := by decide +kernel
theorem dX8_addPutIn_247 : decode cX8_addPutIn 247 = .ok (.goto (-177), 3) := by decide +kernel
theorem dX8_addPutIn_250 : decode cX8_addPutIn 250 = .ok (.return_, 1) := by decide +kernel
def K_X8_addPutIn_30 (G : xG) (l : Launch) (d : Nat) (P : xMem → Prop) (v1 v2 v3 v4 v5 v6 v7 v8 s0 : Int) (μ : xMem) : Prop := RR G l d 0 0 false mX8_addPutIn (qV P) 30 [some (xr G 26), some (xi v1), some (xi v2), some (xi v3), some (xi v4), some (xi v5), some (xi v6), some (xi v7), some (xi v8), none, none, none, none, none, none, none, none] [xi s0] LAY μ 0 0
def K_X8_addPutIn_46 (G : xG) (l : Launch) (d : Nat) (P : xMem → Prop) (v1 v3 v4 v5 v6 v7 v8 v9 s0 : Int) (μ : xMem) : Prop := RR G l d 0 0 false mX8_addPutIn (qV P) 46 [some (xr G 26), some (xi v1), none, some (xi v3), some (xi v4), some (xi v5), some (xi v6), some (xi v7), some (xi v8), some (xi v9), none, none, none, none, none, none, none] [xi s0] LAY μ 0 0
def K_X8_addPutIn_70 (G : xG) (l : Launch) (d : Nat) (P : xMem → Prop) (v1 v4 v5 v6 v7 v8 v9 v10 v11 v12 : Int) (μ : xMem) : Prop := RR G l d 0 0 false mX8_addPutIn (qV P) 70 [some (xr G 26), some (xi v1), none, none, some (xi v4), some (xi v5), some (xi v6), some (xi v7), some (xi v8), some (xi v9), some (xi v10), some (xi v11), some (xi v12), none, none, none, none] [] LAY μ 0 0
def K_X8_addPutIn_97 (G : xG) (l : Launch) (d : Nat) (P : xMem → Prop) (v1 v4 v5 v6 v7 v8 v9 v10 v11 v12 v13 : Int) (μ : xMem) : Prop := RR G l d 0 0 false mX8_addPutIn (qV P) 97 [some (xr G 26), some (xi v1), none, none, some (xi v4), some (xi v5), some (xi v6), some (xi v7), some (xi v8), some (xi v9), some (xi v10), some (xi v11), some (xi v12), some (xi v13), none, none, none] [] LAY μ 0 0
def K_X8_addPutIn_171 (G : xG) (l : Launch) (d : Nat) (P : xMem → Prop) (v1 v4 v5 v6 v7 v8 v9 v10 v11 v12 v13 v14 v15 : Int) (μ : xMem) : Prop := RR G l d 0 0 false mX8_addPutIn (qV P) 171 [some (xr G 26), some (xi v1), none, none, some (xi v4), some (xi v5), some (xi v6), some (xi v7), some (xi v8), some (xi v9), some (xi v10), some (xi v11), some (xi v12), some (xi v13), some (xi v14), some (xi v15), none] [] LAY μ 0 0
def K_X8_addPutIn_214 (G : xG) (l : Launch) (d : Nat) (P : xMem → Prop) (v1 v4 v5 v6 v7 v8 v9 v10 v11 v12 v13 v15 v16 : Int) (μ : xMem) : Prop := RR G l d 0 0 false mX8_addPutIn (qV P) 214 [some (xr G 26), some (xi v1), none, none, some (xi v4), some (xi v5), some (xi v6), some (xi v7), some (xi v8), some (xi v9), some (xi v10), some (xi v11), some (xi v12), some (xi v13), none, some (xi v15), some (xi v16)] [] LAY μ 0 0
set_option maxRecDepth 20000 in
theorem E_X8_addPutIn {G : xG} {l : Launch} {d : Nat} {P : xMem → Prop} {v1 v2 v3 v4 v5 v6 v7 : Int} {μ : xMem} (h : CI G l d mX5_placeOf [xr G 27, xi (2 + v1), xi v2, xi v3, xi v4, xi v5] μ (fun r1 m2 => (iR v6 ∧ (v6 ≠ 7 → K_X8_addPutIn_30 G l (d + 1) P v1 v2 v3 v4 v5 v6 v7 r1 v2 m2) ∧ (v6 = 7 → K_X8_addPutIn_30 G l (d + 1) P v1 v2 v3 v4 v5 v6 v7 r1 v3 m2)))) : CV G l (d + 1) mX8_addPutIn [xr G 26, xi v1, xi v2, xi v3, xi v4, xi v5, xi v6, xi v7] μ P := by
  refine CC.ofRR (ll := [some (xr G 26), some (xi v1), some (xi v2), some (xi v3), some (xi v4), some (xi v5), some (xi v6), some (xi v7), none, none, none, none, none, none, none, none, none]) (by decide +kernel) (Nat.le_of_ble_eq_true rfl) rfl (fun h => by cases h) ?_
  refine xr_aload_n dX8_addPutIn_0 rfl ?_
  refine xr_getR dX8_addPutIn_1 fl_X8_12 L_26 rfl ?_
  refine xr_iconst dX8_addPutIn_4 ?_
  refine xr_iload_n dX8_addPutIn_5 rfl ?_
  refine xr_iadd dX8_addPutIn_6 ?_
  refine xr_iload_n dX8_addPutIn_7 rfl ?_
  refine xr_iload_n dX8_addPutIn_8 rfl ?_
  refine xr_iload dX8_addPutIn_9 rfl ?_
  refine xr_iload dX8_addPutIn_11 rfl ?_
  refine xr_cvI (As := [xi (2 + v1), xi v2, xi v3, xi v4, xi v5]) dX8_addPutIn_13 mi_X5_placeOf ml_X8_109 se_X5_placeOf L_27 rfl rfl rfl (Nat.le_of_ble_eq_true rfl) h (fun r1 m2 hr1 h => ?_)
  refine xr_istore' (ll' := [some (xr G 26), some (xi v1), some (xi v2), some (xi v3), some (xi v4), some (xi v5), some (xi v6), some (xi v7), some (xi r1), none, none, none, none, none, none, none, none]) dX8_addPutIn_16 (by decide) rfl rfl ?_
  refine xr_iload dX8_addPutIn_18 rfl ?_
  refine xr_bipush dX8_addPutIn_20 (by decide) ?_
  obtain ⟨q3, hT4, hF5⟩ := h
  refine xr_icmp_ne (tgt := 29) dX8_addPutIn_22 (by decide) q3 (by decide) (fun c => ?_) (fun c => ?_)
  · have h := hT4 c
    refine xr_iload_n dX8_addPutIn_29 rfl ?_
    exact h
  · have h := hF5 c
    refine xr_iload_n dX8_addPutIn_25 rfl ?_
    refine xr_goto (tgt := 30) dX8_addPutIn_26 (by decide) ?_
    exact h
set_option maxRecDepth 20000 in
theorem B_X8_addPutIn_30 {G : xG} {l : Launch} {d : Nat} {P : xMem → Prop} {v1 v2 v3 v4 v5 v6 v7 v8 s0 : Int} {μ : xMem} (h : (iR v6 ∧ (v6 ≠ 7 → K_X8_addPutIn_46 G l (d + 1) P v1 v3 v4 v5 v6 v7 v8 s0 (v2 + 2) μ) ∧ (v6 = 7 → K_X8_addPutIn_46 G l (d + 1) P v1 v3 v4 v5 v6 v7 v8 s0 v2 μ))) : K_X8_addPutIn_30 G l (d + 1) P v1 v2 v3 v4 v5 v6 v7 v8 s0 μ := by
  unfold K_X8_addPutIn_30
  refine xr_istore' (ll' := [some (xr G 26), some (xi v1), some (xi v2), some (xi v3), some (xi v4), some (xi v5), some (xi v6), some (xi v7), some (xi v8), some (xi s0), none, none, none, none, none, none, none]) dX8_addPutIn_30 (by decide) rfl rfl ?_
  refine xr_iload dX8_addPutIn_32 rfl ?_
  refine xr_bipush dX8_addPutIn_34 (by decide) ?_
  obtain ⟨q1, hT2, hF3⟩ := h
  refine xr_icmp_ne (tgt := 43) dX8_addPutIn_36 (by decide) q1 (by decide) (fun c => ?_) (fun c => ?_)
  · have h := hT2 c
    refine xr_iload_n dX8_addPutIn_43 rfl ?_
    refine xr_iconst dX8_addPutIn_44 ?_
    refine xr_iadd dX8_addPutIn_45 ?_
    refine xr_wk (ll' := [some (xr G 26), some (xi v1), none, some (xi v3), some (xi v4), some (xi v5), some (xi v6), some (xi v7), some (xi v8), some (xi s0), none, none, none, none, none, none, none]) ⟨rfl, ⟨rfl, ⟨rfl, ⟨rfl, ⟨rfl, ⟨rfl, ⟨rfl, ⟨rfl, ⟨rfl, trivial⟩⟩⟩⟩⟩⟩⟩⟩⟩ ?_
    exact h
  · have h := hF3 c
    refine xr_iload_n dX8_addPutIn_39 rfl ?_
    refine xr_goto (tgt := 46) dX8_addPutIn_40 (by decide) ?_
    refine xr_wk (ll' := [some (xr G 26), some (xi v1), none, some (xi v3), some (xi v4), some (xi v5), some (xi v6), some (xi v7), some (xi v8), some (xi s0), none, none, none, none, none, none, none]) ⟨rfl, ⟨rfl, ⟨rfl, ⟨rfl, ⟨rfl, ⟨rfl, ⟨rfl, ⟨rfl, ⟨rfl, trivial⟩⟩⟩⟩⟩⟩⟩⟩⟩ ?_
    exact h
set_option maxRecDepth 20000 in
theorem B_X8_addPutIn_46 {G : xG} {l : Launch} {d : Nat} {P : xMem → Prop} {v1 v3 v4 v5 v6 v7 v8 v9 s0 : Int} {μ : xMem} (h : (iR v6 ∧ (v6 ≠ 7 → K_X8_addPutIn_70 G l (d + 1) P v1 v4 v5 v6 v7 v8 v9 s0 v3 (v4 + 1) μ) ∧ (v6 = 7 → K_X8_addPutIn_70 G l (d + 1) P v1 v4 v5 v6 v7 v8 v9 s0 (v3 - 2) (v4 + 1) μ))) : K_X8_addPutIn_46 G l (d + 1) P v1 v3 v4 v5 v6 v7 v8 v9 s0 μ := by
  unfold K_X8_addPutIn_46
  refine xr_istore' (ll' := [some (xr G 26), some (xi v1), none, some (xi v3), some (xi v4), some (xi v5), some (xi v6), some (xi v7), some (xi v8), some (xi v9), some (xi s0), none, none, none, none, none, none]) dX8_addPutIn_46 (by decide) rfl rfl ?_
  refine xr_iload dX8_addPutIn_48 rfl ?_
  refine xr_bipush dX8_addPutIn_50 (by decide) ?_
  obtain ⟨q1, hT2, hF3⟩ := h
  refine xr_icmp_ne (tgt := 61) dX8_addPutIn_52 (by decide) q1 (by decide) (fun c => ?_) (fun c => ?_)
  · have h := hT2 c
    refine xr_iload_n dX8_addPutIn_61 rfl ?_
    refine xr_istore' (ll' := [some (xr G 26), some (xi v1), none, some (xi v3), some (xi v4), some (xi v5), some (xi v6), some (xi v7), some (xi v8), some (xi v9), some (xi s0), some (xi v3), none, none, none, none, none]) dX8_addPutIn_62 (by decide) rfl rfl ?_
    refine xr_iload dX8_addPutIn_64 rfl ?_
    refine xr_iconst dX8_addPutIn_66 ?_
    refine xr_iadd dX8_addPutIn_67 ?_
    refine xr_istore' (ll' := [some (xr G 26), some (xi v1), none, some (xi v3), some (xi v4), some (xi v5), some (xi v6), some (xi v7), some (xi v8), some (xi v9), some (xi s0), some (xi v3), some (xi (v4 + 1)), none, none, none, none]) dX8_addPutIn_68 (by decide) rfl rfl ?_
    refine xr_wk (ll' := [some (xr G 26), some (xi v1), none, none, some (xi v4), some (xi v5), some (xi v6), some (xi v7), some (xi v8), some (xi v9), some (xi s0), some (xi v3), some (xi (v4 + 1)), none, none, none, none]) ⟨rfl, ⟨rfl, ⟨rfl, ⟨rfl, ⟨rfl, ⟨rfl, ⟨rfl, ⟨rfl, ⟨rfl, ⟨rfl, ⟨rfl, trivial⟩⟩⟩⟩⟩⟩⟩⟩⟩⟩⟩ ?_
    exact h
  · have h := hF3 c
    refine xr_iload_n dX8_addPutIn_55 rfl ?_
    refine xr_iconst dX8_addPutIn_56 ?_
    refine xr_isub dX8_addPutIn_57 ?_
    refine xr_goto (tgt := 62) dX8_addPutIn_58 (by decide) ?_
    refine xr_istore' (ll' := [some (xr G 26), some (xi v1), none, some (xi v3), some (xi v4), some (xi v5), some (xi v6), some (xi v7), some (xi v8), some (xi v9), some (xi s0), some (xi (v3 - 2)), none, none, none, none, none]) dX8_addPutIn_62 (by decide) rfl rfl ?_
    refine xr_iload dX8_addPutIn_64 rfl ?_
    refine xr_iconst dX8_addPutIn_66 ?_
    refine xr_iadd dX8_addPutIn_67 ?_
    refine xr_istore' (ll' := [some (xr G 26), some (xi v1), none, some (xi v3), some (xi v4), some (xi v5), some (xi v6), some (xi v7), some (xi v8), some (xi v9), some (xi s0), some (xi (v3 - 2)), some (xi (v4 + 1)), none, none, none, none]) dX8_addPutIn_68 (by decide) rfl rfl ?_
    refine xr_wk (ll' := [some (xr G 26), some (xi v1), none, none, some (xi v4), some (xi v5), some (xi v6), some (xi v7), some (xi v8), some (xi v9), some (xi s0), some (xi (v3 - 2)), some (xi (v4 + 1)), none, none, none, none]) ⟨rfl, ⟨rfl, ⟨rfl, ⟨rfl, ⟨rfl, ⟨rfl, ⟨rfl, ⟨rfl, ⟨rfl, ⟨rfl, ⟨rfl, trivial⟩⟩⟩⟩⟩⟩⟩⟩⟩⟩⟩ ?_
    exact h
set_option maxRecDepth 20000 in
theorem B_X8_addPutIn_70 {G : xG} {l : Launch} {d : Nat} {P : xMem → Prop} {v1 v4 v5 v6 v7 v8 v9 v10 v11 v12 : Int} {μ : xMem} (h : (iR v12 ∧ iR (v5 - 1) ∧ ((v5 - 1) ≤ v12 → P μ) ∧ (v12 < (v5 - 1) → CI G l d mX5_hasEnough [xr G 27, xi v8] μ (fun r5 m6 => ((r5 ≠ 0 → P m6) ∧ (r5 = 0 → K_X8_addPutIn_97 G l (d + 1) P v1 v4 v5 v6 v7 v8 v9 v10 v11 v12 (v12 + 1) m6)))))) : K_X8_addPutIn_70 G l (d + 1) P v1 v4 v5 v6 v7 v8 v9 v10 v11 v12 μ := by
  unfold K_X8_addPutIn_70
  refine xr_iload dX8_addPutIn_70 rfl ?_
  refine xr_iload dX8_addPutIn_72 rfl ?_
  refine xr_iconst dX8_addPutIn_74 ?_
  refine xr_isub dX8_addPutIn_75 ?_
  obtain ⟨q1, q2, hT3, hF4⟩ := h
  refine xr_icmp_ge (tgt := 250) dX8_addPutIn_76 (by decide) q1 q2 (fun c => ?_) (fun c => ?_)
  · have h := hT3 c
    exact xr_ret dX8_addPutIn_250 rfl ⟨rfl, rfl, h⟩
  · have h := hF4 (Int.not_le.mp c)
    refine xr_aload_n dX8_addPutIn_79 rfl ?_
    refine xr_getR dX8_addPutIn_80 fl_X8_12 L_26 rfl ?_
    refine xr_iload dX8_addPutIn_83 rfl ?_
    refine xr_cvI (As := [xi v8]) dX8_addPutIn_85 mi_X5_hasEnough ml_X8_64 se_X5_hasEnough L_27 rfl rfl rfl (Nat.le_of_ble_eq_true rfl) h (fun r5 m6 hr5 h => ?_)
    obtain ⟨hT7, hF8⟩ := h
    refine xr_if_ne (tgt := 250) dX8_addPutIn_88 (by decide) hr5  (fun c => ?_) (fun c => ?_)
    · have h := hT7 c
      exact xr_ret dX8_addPutIn_250 rfl ⟨rfl, rfl, h⟩
    · have h := hF8 c
      refine xr_iload dX8_addPutIn_91 rfl ?_
      refine xr_iconst dX8_addPutIn_93 ?_
      refine xr_iadd dX8_addPutIn_94 ?_
      refine xr_istore' (ll' := [some (xr G 26), some (xi v1), none, none, some (xi v4), some (xi v5), some (xi v6), some (xi v7), some (xi v8), some (xi v9), some (xi v10), some (xi v11), some (xi v12), some (xi (v12 + 1)), none, none, none]) dX8_addPutIn_95 (by decide) rfl rfl ?_
      exact h
set_option maxRecDepth 20000 in
theorem B_X8_addPutIn_97 {G : xG} {l : Launch} {d : Nat} {P : xMem → Prop} {v1 v4 v5 v6 v7 v8 v9 v10 v11 v12 v13 : Int} {μ : xMem} (h : (iR v13 ∧ iR v5 ∧ (v5 ≤ v13 → K_X8_addPutIn_70 G l (d + 1) P v1 v4 v5 v6 v7 v8 v9 v10 v11 (v12 + 1) μ) ∧ (v13 < v5 → CI G l d mX5_hasEnough [xr G 27, xi v8] μ (fun r5 m6 => ((r5 ≠ 0 → K_X8_addPutIn_70 G l (d + 1) P v1 v4 v5 v6 v7 v8 v9 v10 v11 (v12 + 1) m6) ∧ (r5 = 0 → CV G l d mX9_aimAt [xr G 33, xi v1, xi v4, xi v12, xi v13, xi v5] m6 (fun m10 => CI G l d mX9_isOwn [xr G 33, xi v9, xi 0, xi 0] m10 (fun r11 m12 => CI G l d mX9_countMeant [xr G 33, xi v9, xi 0, xi 0] m12 (fun r13 m14 => ((r11 ≠ 0 → K_X8_addPutIn_171 G l (d + 1) P v1 v4 v5 v6 v7 v8 v9 v10 v11 v12 v13 r11 r13 m14) ∧ (r11 = 0 → ((r13 ≠ 0 → K_X8_addPutIn_171 G l (d + 1) P v1 v4 v5 v6 v7 v8 v9 v10 v11 v12 v13 r11 r13 m14) ∧ (r13 = 0 → K_X8_addPutIn_97 G l (d + 1) P v1 v4 v5 v6 v7 v8 v9 v10 v11 v12 (v13 + 1) m14))))))))))))) : K_X8_addPutIn_97 G l (d + 1) P v1 v4 v5 v6 v7 v8 v9 v10 v11 v12 v13 μ := by
  unfold K_X8_addPutIn_97
  refine xr_iload dX8_addPutIn_97 rfl ?_
  refine xr_iload dX8_addPutIn_99 rfl ?_
  obtain ⟨q1, q2, hT3, hF4⟩ := h
  refine xr_icmp_ge (tgt := 244) dX8_addPutIn_101 (by decide) q1 q2 (fun c => ?_) (fun c => ?_)
  · have h := hT3 c
    refine xr_iinc' (ll' := [some (xr G 26), some (xi v1), none, none, some (xi v4), some (xi v5), some (xi v6), some (xi v7), some (xi v8), some (xi v9), some (xi v10), some (xi v11), some (xi (v12 + 1)), some (xi v13), none, none, none]) dX8_addPutIn_244 rfl (by decide) rfl rfl ?_
    refine xr_goto (tgt := 70) dX8_addPutIn_247 (by decide) ?_
    refine xr_wk (ll' := [some (xr G 26), some (xi v1), none, none, some (xi v4), some (xi v5), some (xi v6), some (xi v7), some (xi v8), some (xi v9), some (xi v10), some (xi v11), some (xi (v12 + 1)), none, none, none, none]) ⟨rfl, ⟨rfl, ⟨rfl, ⟨rfl, ⟨rfl, ⟨rfl, ⟨rfl, ⟨rfl, ⟨rfl, ⟨rfl, ⟨rfl, trivial⟩⟩⟩⟩⟩⟩⟩⟩⟩⟩⟩ ?_
    exact h
  · have h := hF4 (Int.not_le.mp c)
    refine xr_aload_n dX8_addPutIn_104 rfl ?_
    refine xr_getR dX8_addPutIn_105 fl_X8_12 L_26 rfl ?_
    refine xr_iload dX8_addPutIn_108 rfl ?_
    refine xr_cvI (As := [xi v8]) dX8_addPutIn_110 mi_X5_hasEnough ml_X8_64 se_X5_hasEnough L_27 rfl rfl rfl (Nat.le_of_ble_eq_true rfl) h (fun r5 m6 hr5 h => ?_)
    obtain ⟨hT7, hF8⟩ := h
    refine xr_if_ne (tgt := 244) dX8_addPutIn_113 (by decide) hr5  (fun c => ?_) (fun c => ?_)
    · have h := hT7 c
      refine xr_iinc' (ll' := [some (xr G 26), some (xi v1), none, none, some (xi v4), some (xi v5), some (xi v6), some (xi v7), some (xi v8), some (xi v9), some (xi v10), some (xi v11), some (xi (v12 + 1)), some (xi v13), none, none, none]) dX8_addPutIn_244 rfl (by decide) rfl rfl ?_
      refine xr_goto (tgt := 70) dX8_addPutIn_247 (by decide) ?_
      refine xr_wk (ll' := [some (xr G 26), some (xi v1), none, none, some (xi v4), some (xi v5), some (xi v6), some (xi v7), some (xi v8), some (xi v9), some (xi v10), some (xi v11), some (xi (v12 + 1)), none, none, none, none]) ⟨rfl, ⟨rfl, ⟨rfl, ⟨rfl, ⟨rfl, ⟨rfl, ⟨rfl, ⟨rfl, ⟨rfl, ⟨rfl, ⟨rfl, trivial⟩⟩⟩⟩⟩⟩⟩⟩⟩⟩⟩ ?_
      exact h
    · have h := hF8 c
      refine xr_aload_n dX8_addPutIn_116 rfl ?_
      refine xr_getR dX8_addPutIn_117 fl_X8_23 L_26 rfl ?_
      refine xr_iload_n dX8_addPutIn_120 rfl ?_
      refine xr_iload dX8_addPutIn_121 rfl ?_
      refine xr_iload dX8_addPutIn_123 rfl ?_
      refine xr_iload dX8_addPutIn_125 rfl ?_
      refine xr_iload dX8_addPutIn_127 rfl ?_
      refine xr_cvV (As := [xi v1, xi v4, xi v12, xi v13, xi v5]) dX8_addPutIn_129 mi_X9_aimAt ml_X8_132 se_X9_aimAt L_33 rfl rfl rfl (Nat.le_of_ble_eq_true rfl) h (fun m10 h => ?_)
      refine xr_aload_n dX8_addPutIn_132 rfl ?_
      refine xr_getR dX8_addPutIn_133 fl_X8_23 L_26 rfl ?_
      refine xr_iload dX8_addPutIn_136 rfl ?_
      refine xr_iconst dX8_addPutIn_138 ?_
      refine xr_iconst dX8_addPutIn_139 ?_
      refine xr_cvI (As := [xi v9, xi 0, xi 0]) dX8_addPutIn_140 mi_X9_isOwn ml_X8_150 se_X9_isOwn L_33 rfl rfl rfl (Nat.le_of_ble_eq_true rfl) h (fun r11 m12 hr11 h => ?_)
      refine xr_istore' (ll' := [some (xr G 26), some (xi v1), none, none, some (xi v4), some (xi v5), some (xi v6), some (xi v7), some (xi v8), some (xi v9), some (xi v10), some (xi v11), some (xi v12), some (xi v13), some (xi r11), none, none]) dX8_addPutIn_143 (by decide) rfl rfl ?_
      refine xr_aload_n dX8_addPutIn_145 rfl ?_
      refine xr_getR dX8_addPutIn_146 fl_X8_23 L_26 rfl ?_
      refine xr_iload dX8_addPutIn_149 rfl ?_
      refine xr_iconst dX8_addPutIn_151 ?_
      refine xr_iconst dX8_addPutIn_152 ?_
      refine xr_cvI (As := [xi v9, xi 0, xi 0]) dX8_addPutIn_153 mi_X9_countMeant ml_X8_153 se_X9_countMeant L_33 rfl rfl rfl (Nat.le_of_ble_eq_true rfl) h (fun r13 m14 hr13 h => ?_)
      refine xr_istore' (ll' := [some (xr G 26), some (xi v1), none, none, some (xi v4), some (xi v5), some (xi v6), some (xi v7), some (xi v8), some (xi v9), some (xi v10), some (xi v11), some (xi v12), some (xi v13), some (xi r11), some (xi r13), none]) dX8_addPutIn_156 (by decide) rfl rfl ?_
      refine xr_iload dX8_addPutIn_158 rfl ?_
      obtain ⟨hT15, hF16⟩ := h
      refine xr_if_ne (tgt := 171) dX8_addPutIn_160 (by decide) hr11  (fun c => ?_) (fun c => ?_)
      · have h := hT15 c
        exact h
      · have h := hF16 c
        refine xr_iload dX8_addPutIn_163 rfl ?_
        obtain ⟨hT17, hF18⟩ := h
        refine xr_if_ne (tgt := 171) dX8_addPutIn_165 (by decide) hr13  (fun c => ?_) (fun c => ?_)
        · have h := hT17 c
          exact h
        · have h := hF18 c
          refine xr_goto (tgt := 238) dX8_addPutIn_168 (by decide) ?_
          refine xr_iinc' (ll' := [some (xr G 26), some (xi v1), none, none, some (xi v4), some (xi v5), some (xi v6), some (xi v7), some (xi v8), some (xi v9), some (xi v10), some (xi v11), some (xi v12), some (xi (v13 + 1)), some (xi r11), some (xi r13), none]) dX8_addPutIn_238 rfl (by decide) rfl rfl ?_
          refine xr_goto (tgt := 97) dX8_addPutIn_241 (by decide) ?_
          refine xr_wk (ll' := [some (xr G 26), some (xi v1), none, none, some (xi v4), some (xi v5), some (xi v6), some (xi v7), some (xi v8), some (xi v9), some (xi v10), some (xi v11), some (xi v12), some (xi (v13 + 1)), none, none, none]) ⟨rfl, ⟨rfl, ⟨rfl, ⟨rfl, ⟨rfl, ⟨rfl, ⟨rfl, ⟨rfl, ⟨rfl, ⟨rfl, ⟨rfl, ⟨rfl, trivial⟩⟩⟩⟩⟩⟩⟩⟩⟩⟩⟩⟩ ?_
          exact h
set_option maxRecDepth 20000 in
theorem B_X8_addPutIn_171 {G : xG} {l : Launch} {d : Nat} {P : xMem → Prop} {v1 v4 v5 v6 v7 v8 v9 v10 v11 v12 v13 v14 v15 : Int} {μ : xMem} (h : CI G l d mX8_rowOf [xr G 26, xi v1, xi v10, xi v11, xi v12, xi v13, xi (v7 + 1)] μ (fun r1 m2 => (iR v14 ∧ (v14 = 0 → K_X8_addPutIn_214 G l (d + 1) P v1 v4 v5 v6 v7 v8 v9 v10 v11 v12 v13 v15 r1 m2) ∧ (v14 ≠ 0 → CV G l d mX8_addAround [xr G 26, xi v8, xi v6, xi r1, xi (v12 - v4), xi 28, xi v9] m2 (fun m7 => K_X8_addPutIn_214 G l (d + 1) P v1 v4 v5 v6 v7 v8 v9 v10 v11 v12 v13 v15 r1 m7))))) : K_X8_addPutIn_171 G l (d + 1) P v1 v4 v5 v6 v7 v8 v9 v10 v11 v12 v13 v14 v15 μ := by
  unfold K_X8_addPutIn_171
  refine xr_aload_n dX8_addPutIn_171 rfl ?_
  refine xr_iload_n dX8_addPutIn_172 rfl ?_
  refine xr_iload dX8_addPutIn_173 rfl ?_
  refine xr_iload dX8_addPutIn_175 rfl ?_
  refine xr_iload dX8_addPutIn_177 rfl ?_
  refine xr_iload dX8_addPutIn_179 rfl ?_
  refine xr_iload dX8_addPutIn_181 rfl ?_
  refine xr_iconst dX8_addPutIn_183 ?_
  refine xr_iadd dX8_addPutIn_184 ?_
  refine xr_cvI (As := [xi v1, xi v10, xi v11, xi v12, xi v13, xi (v7 + 1)]) dX8_addPutIn_185 mi_X8_rowOf ml_X8_53 se_X8_rowOf L_26 rfl rfl rfl (Nat.le_of_ble_eq_true rfl) h (fun r1 m2 hr1 h => ?_)
  refine xr_istore' (ll' := [some (xr G 26), some (xi v1), none, none, some (xi v4), some (xi v5), some (xi v6), some (xi v7), some (xi v8), some (xi v9), some (xi v10), some (xi v11), some (xi v12), some (xi v13), some (xi v14), some (xi v15), some (xi r1)]) dX8_addPutIn_188 (by decide) rfl rfl ?_
  refine xr_iload dX8_addPutIn_190 rfl ?_
  obtain ⟨q3, hT4, hF5⟩ := h
  refine xr_if_eq (tgt := 214) dX8_addPutIn_192 (by decide) q3  (fun c => ?_) (fun c => ?_)
  · have h := hT4 c
    refine xr_wk (ll' := [some (xr G 26), some (xi v1), none, none, some (xi v4), some (xi v5), some (xi v6), some (xi v7), some (xi v8), some (xi v9), some (xi v10), some (xi v11), some (xi v12), some (xi v13), none, some (xi v15), some (xi r1)]) ⟨rfl, ⟨rfl, ⟨rfl, ⟨rfl, ⟨rfl, ⟨rfl, ⟨rfl, ⟨rfl, ⟨rfl, ⟨rfl, ⟨rfl, ⟨rfl, ⟨rfl, ⟨rfl, trivial⟩⟩⟩⟩⟩⟩⟩⟩⟩⟩⟩⟩⟩⟩ ?_
    exact h
  · have h := hF5 c
    refine xr_aload_n dX8_addPutIn_195 rfl ?_
    refine xr_iload dX8_addPutIn_196 rfl ?_
    refine xr_iload dX8_addPutIn_198 rfl ?_
    refine xr_iload dX8_addPutIn_200 rfl ?_
    refine xr_iload dX8_addPutIn_202 rfl ?_
    refine xr_iload dX8_addPutIn_204 rfl ?_
    refine xr_isub dX8_addPutIn_206 ?_
    refine xr_bipush dX8_addPutIn_207 (by decide) ?_
    refine xr_iload dX8_addPutIn_209 rfl ?_
    refine xr_cvV (As := [xi v8, xi v6, xi r1, xi (v12 - v4), xi 28, xi v9]) dX8_addPutIn_211 mi_X8_addAround ml_X8_183 se_X8_addAround L_26 rfl rfl rfl (Nat.le_of_ble_eq_true rfl) h (fun m7 h => ?_)
    refine xr_wk (ll' := [some (xr G 26), some (xi v1), none, none, some (xi v4), some (xi v5), some (xi v6), some (xi v7), some (xi v8), some (xi v9), some (xi v10), some (xi v11), some (xi v12), some (xi v13), none, some (xi v15), some (xi r1)]) ⟨rfl, ⟨rfl, ⟨rfl, ⟨rfl, ⟨rfl, ⟨rfl, ⟨rfl, ⟨rfl, ⟨rfl, ⟨rfl, ⟨rfl, ⟨rfl, ⟨rfl, ⟨rfl, trivial⟩⟩⟩⟩⟩⟩⟩⟩⟩⟩⟩⟩⟩⟩ ?_
    exact h
set_option maxRecDepth 20000 in
theorem B_X8_addPutIn_214 {G : xG} {l : Launch} {d : Nat} {P : xMem → Prop} {v1 v4 v5 v6 v7 v8 v9 v10 v11 v12 v13 v15 v16 : Int} {μ : xMem} (h : (iR v15 ∧ (v15 ≤ 0 → K_X8_addPutIn_97 G l (d + 1) P v1 v4 v5 v6 v7 v8 v9 v10 v11 v12 (v13 + 1) μ) ∧ (0 < v15 → CV G l d mX8_addAround [xr G 26, xi v8, xi v6, xi v16, xi (v12 - v4), xi 29, xi v9] μ (fun m5 => K_X8_addPutIn_97 G l (d + 1) P v1 v4 v5 v6 v7 v8 v9 v10 v11 v12 (v13 + 1) m5)))) : K_X8_addPutIn_214 G l (d + 1) P v1 v4 v5 v6 v7 v8 v9 v10 v11 v12 v13 v15 v16 μ := by
  unfold K_X8_addPutIn_214
  refine xr_iload dX8_addPutIn_214 rfl ?_
  obtain ⟨q1, hT2, hF3⟩ := h
  refine xr_if_le (tgt := 238) dX8_addPutIn_216 (by decide) q1  (fun c => ?_) (fun c => ?_)
  · have h := hT2 c
    refine xr_iinc' (ll' := [some (xr G 26), some (xi v1), none, none, some (xi v4), some (xi v5), some (xi v6), some (xi v7), some (xi v8), some (xi v9), some (xi v10), some (xi v11), some (xi v12), some (xi (v13 + 1)), none, some (xi v15), some (xi v16)]) dX8_addPutIn_238 rfl (by decide) rfl rfl ?_
    refine xr_goto (tgt := 97) dX8_addPutIn_241 (by decide) ?_
    refine xr_wk (ll' := [some (xr G 26), some (xi v1), none, none, some (xi v4), some (xi v5), some (xi v6), some (xi v7), some (xi v8), some (xi v9), some (xi v10), some (xi v11), some (xi v12), some (xi (v13 + 1)), none, none, none]) ⟨rfl, ⟨rfl, ⟨rfl, ⟨rfl, ⟨rfl, ⟨rfl, ⟨rfl, ⟨rfl, ⟨rfl, ⟨rfl, ⟨rfl, ⟨rfl, trivial⟩⟩⟩⟩⟩⟩⟩⟩⟩⟩⟩⟩ ?_
    exact h
  · have h := hF3 (Int.not_le.mp c)
    refine xr_aload_n dX8_addPutIn_219 rfl ?_
    refine xr_iload dX8_addPutIn_220 rfl ?_
    refine xr_iload dX8_addPutIn_222 rfl ?_
    refine xr_iload dX8_addPutIn_224 rfl ?_
    refine xr_iload dX8_addPutIn_226 rfl ?_
    refine xr_iload dX8_addPutIn_228 rfl ?_
    refine xr_isub dX8_addPutIn_230 ?_
    refine xr_bipush dX8_addPutIn_231 (by decide) ?_
    refine xr_iload dX8_addPutIn_233 rfl ?_
    refine xr_cvV (As := [xi v8, xi v6, xi v16, xi (v12 - v4), xi 29, xi v9]) dX8_addPutIn_235 mi_X8_addAround ml_X8_183 se_X8_addAround L_26 rfl rfl rfl (Nat.le_of_ble_eq_true rfl) h (fun m5 h => ?_)
    refine xr_iinc' (ll' := [some (xr G 26), some (xi v1), none, none, some (xi v4), some (xi v5), some (xi v6), some (xi v7), some (xi v8), some (xi v9), some (xi v10), some (xi v11), some (xi v12), some (xi (v13 + 1)), none, some (xi v15), some (xi v16)]) dX8_addPutIn_238 rfl (by decide) rfl rfl ?_
    refine xr_goto (tgt := 97) dX8_addPutIn_241 (by decide) ?_
    refine xr_wk (ll' := [some (xr G 26), some (xi v1), none, none, some (xi v4), some (xi v5), some (xi v6), some (xi v7), some (xi v8), some (xi v9), some (xi v10), some (xi v11), some (xi v12), some (xi (v13 + 1)), none, none, none]) ⟨rfl, ⟨rfl, ⟨rfl, ⟨rfl, ⟨rfl, ⟨rfl, ⟨rfl, ⟨rfl, ⟨rfl, ⟨rfl, ⟨rfl, ⟨rfl, trivial⟩⟩⟩⟩⟩⟩⟩⟩⟩⟩⟩⟩ ?_
    exact h
theorem dX8_addAround_0 : decode cX8_addAround 0 = .ok (.iconst 1, 1) := by decide +kernel
theorem dX8_addAround_1 : decode cX8_addAround 1 = .ok (.aload_n 0, 1) := by decide +kernel
theorem dX8_addAround_2 : decode cX8_addAround 2 = .ok (.getfield 12, 3) := by decide +kernel
theorem dX8_addAround_5 : decode cX8_addAround 5 = .ok (.getfield 75, 3) := by decide +kernel
theorem dX8_addAround_8 : decode cX8_addAround 8 = .ok (.iload_n 3, 1) := by decide +kernel
theorem dX8_addAround_9 : decode cX8_addAround 9 = .ok (.iaload, 1) := by decide +kernel
theorem dX8_addAround_10 : decode cX8_addAround 10 = .ok (.iadd, 1) := by decide +kernel
theorem dX8_addAround_11 : decode cX8_addAround 11 = .ok (.aload_n 0, 1) := by decide +kernel
theorem dX8_addAround_12 : decode cX8_addAround 12 = .ok (.iload 5, 2) := by decide +kernel
theorem dX8_addAround_14 : decode cX8_addAround 14 = .ok (.invokevirtual 179, 3) := by decide +kernel
theorem dX8_addAround_17 : decode cX8_addAround 17 = .ok (.iadd, 1) := by decide +kernel
theorem dX8_addAround_18 : decode cX8_addAround 18 = .ok (.istore 7, 2) := by decide +kernel
theorem dX8_addAround_20 : decode cX8_addAround 20 = .ok (.aload_n 0, 1) := by decide +kernel
theorem dX8_addAround_21 : decode cX8_addAround 21 = .ok (.getfield 12, 3) := by decide +kernel
theorem dX8_addAround_24 : decode cX8_addAround 24 = .ok (.getfield 71, 3) := by decide +kernel
theorem dX8_addAround_27 : decode cX8_addAround 27 = .ok (.iload_n 3, 1) := by decide +kernel
theorem dX8_addAround_28 : decode cX8_addAround 28 = .ok (.iaload, 1) := by decide +kernel
theorem dX8_addAround_29 : decode cX8_addAround 29 = .ok (.ifCond .le 110, 3) := by decide +kernel
theorem dX8_addAround_32 : decode cX8_addAround 32 = .ok (.aload_n 0, 1) := by decide +kernel
theorem dX8_addAround_33 : decode cX8_addAround 33 = .ok (.getfield 12, 3) := by decide +kernel
theorem dX8_addAround_36 : decode cX8_addAround 36 = .ok (.iload_n 1, 1) := by decide +kernel
theorem dX8_addAround_37 : decode cX8_addAround 37 = .ok (.aload_n 0, 1) := by decide +kernel
theorem dX8_addAround_38 : decode cX8_addAround 38 = .ok (.getfield 12, 3) := by decide +kernel
theorem dX8_addAround_41 : decode cX8_addAround 41 = .ok (.getfield 71, 3) := by decide +kernel
theorem dX8_addAround_44 : decode cX8_addAround 44 = .ok (.iload_n 3, 1) := by decide +kernel
theorem dX8_addAround_45 : decode cX8_addAround 45 = .ok (.iaload, 1) := by decide +kernel
theorem dX8_addAround_46 : decode cX8_addAround 46 = .ok (.iload 7, 2) := by decide +kernel
theorem dX8_addAround_48 : decode cX8_addAround 48 = .ok (.invokevirtual 90, 3) := by decide +kernel
theorem dX8_addAround_51 : decode cX8_addAround 51 = .ok (.ifCond .eq 88, 3) := by decide +kernel
theorem dX8_addAround_54 : decode cX8_addAround 54 = .ok (.aload_n 0, 1) := by decide +kernel
theorem dX8_addAround_55 : decode cX8_addAround 55 = .ok (.getfield 12, 3) := by decide +kernel
theorem dX8_addAround_58 : decode cX8_addAround 58 = .ok (.getstatic 176, 3) := by decide +kernel
theorem dX8_addAround_61 : decode cX8_addAround 61 = .ok (.iload_n 2, 1) := by decide +kernel
theorem dX8_addAround_62 : decode cX8_addAround 62 = .ok (.iaload, 1) := by decide +kernel
theorem dX8_addAround_63 : decode cX8_addAround 63 = .ok (.iload_n 2, 1) := by decide +kernel
theorem dX8_addAround_64 : decode cX8_addAround 64 = .ok (.bipush 7, 2) := by decide +kernel
theorem dX8_addAround_66 : decode cX8_addAround 66 = .ok (.if_icmp .ne 10, 3) := by decide +kernel
theorem dX8_addAround_69 : decode cX8_addAround 69 = .ok (.iload 6, 2) := by decide +kernel
theorem dX8_addAround_71 : decode cX8_addAround 71 = .ok (.iconst 1, 1) := by decide +kernel
theorem dX8_addAround_72 : decode cX8_addAround 72 = .ok (.isub, 1) := by decide +kernel
theorem dX8_addAround_73 : decode cX8_addAround 73 = .ok (.goto 7, 3) := by decide +kernel
theorem dX8_addAround_76 : decode cX8_addAround 76 = .ok (.iload 6, 2) := by decide +kernel
theorem dX8_addAround_78 : decode cX8_addAround 78 = .ok (.iconst 1, 1) := by decide +kernel
theorem dX8_addAround_79 : decode cX8_addAround 79 = .ok (.iadd, 1) := by decide +kernel
theorem dX8_addAround_80 : decode cX8_addAround 80 = .ok (.invokevirtual 94, 3) := by decide +kernel
theorem dX8_addAround_83 : decode cX8_addAround 83 = .ok (.aload_n 0, 1) := by decide +kernel
theorem dX8_addAround_84 : decode cX8_addAround 84 = .ok (.getfield 12, 3) := by decide +kernel
theorem dX8_addAround_87 : decode cX8_addAround 87 = .ok (.iconst 1, 1) := by decide +kernel
theorem dX8_addAround_88 : decode cX8_addAround 88 = .ok (.invokevirtual 100, 3) := by decide +kernel
theorem dX8_addAround_91 : decode cX8_addAround 91 = .ok (.aload_n 0, 1) := by decide +kernel
theorem dX8_addAround_92 : decode cX8_addAround 92 = .ok (.getfield 12, 3) := by decide +kernel
theorem dX8_addAround_95 : decode cX8_addAround 95 = .ok (.iload_n 3, 1) := by decide +kernel
theorem dX8_addAround_96 : decode cX8_addAround 96 = .ok (.invokevirtual 106, 3) := by decide +kernel
theorem dX8_addAround_99 : decode cX8_addAround 99 = .ok (.aload_n 0, 1) := by decide +kernel
theorem dX8_addAround_100 : decode cX8_addAround 100 = .ok (.getfield 12, 3) := by decide +kernel
theorem dX8_addAround_103 : decode cX8_addAround 103 = .ok (.iconst 2, 1) := by decide +kernel
theorem dX8_addAround_104 : decode cX8_addAround 104 = .ok (.invokevirtual 100, 3) := by decide +kernel
theorem dX8_addAround_107 : decode cX8_addAround 107 = .ok (.aload_n 0, 1) := by decide +kernel
theorem dX8_addAround_108 : decode cX8_addAround 108 = .ok (.getfield 12, 3) := by decide +kernel
theorem dX8_addAround_111 : decode cX8_addAround 111 = .ok (.iconst 2, 1) := by decide +kernel
theorem dX8_addAround_112 : decode cX8_addAround 112 = .ok (.iload 4, 2) := by decide +kernel
theorem dX8_addAround_114 : decode cX8_addAround 114 = .ok (.iadd, 1) := by decide +kernel
theorem dX8_addAround_115 : decode cX8_addAround 115 = .ok (.invokevirtual 100, 3) := by decide +kernel
theorem dX8_addAround_118 : decode cX8_addAround 118 = .ok (.aload_n 0, 1) := by decide +kernel
theorem dX8_addAround_119 : decode cX8_addAround 119 = .ok (.getfield 12, 3) := by decide +kernel
theorem dX8_addAround_122 : decode cX8_addAround 122 = .ok (.iload 5, 2) := by decide +kernel
theorem dX8_addAround_124 : decode cX8_addAround 124 = .ok (.iload 6, 2) := by decide +kernel
theorem dX8_addAround_126 : decode cX8_addAround 126 = .ok (.invokevirtual 94, 3) := by decide +kernel
theorem dX8_addAround_129 : decode cX8_addAround 129 = .ok (.aload_n 0, 1) := by decide +kernel
theorem dX8_addAround_130 : decode cX8_addAround 130 = .ok (.getfield 12, 3) := by decide +kernel
theorem dX8_addAround_133 : decode cX8_addAround 133 = .ok (.iload_n 1, 1) := by decide +kernel
theorem dX8_addAround_134 : decode cX8_addAround 134 = .ok (.iload 7, 2) := by decide +kernel
theorem dX8_addAround_136 : decode cX8_addAround 136 = .ok (.invokevirtual 103, 3) := by decide +kernel
theorem dX8_addAround_139 : decode cX8_addAround 139 = .ok (.return_, 1) := by decide +kernel
def K_X8_addAround_80 (G : xG) (l : Launch) (d : Nat) (P : xMem → Prop) (v1 v3 v4 v5 v6 v7 s1 s2 : Int) (μ : xMem) : Prop := RR G l d 0 0 false mX8_addAround (qV P) 80 [some (xr G 26), some (xi v1), none, some (xi v3), some (xi v4), some (xi v5), some (xi v6), some (xi v7)] [xi s2, xi s1, xr G 27] LAY μ 0 0
set_option maxRecDepth 20000 in
theorem E_X8_addAround {G : xG} {l : Launch} {d : Nat} {P : xMem → Prop} {v1 v2 v3 v4 v5 v6 : Int} {μ : xMem} (h : ((0 ≤ v3 ∧ v3 < 7922) ∧ CI G l d mX8_costOf [xr G 26, xi v5] μ (fun r2 m3 => (iR (m3 29 v3) ∧ ((m3 29 v3) ≤ 0 → P m3) ∧ (0 < (m3 29 v3) → CI G l d mX5_offer [xr G 27, xi v1, xi (m3 29 v3), xi ((1 + (μ 30 v3)) + r2)] m3 (fun r7 m8 => ((r7 = 0 → P m8) ∧ (r7 ≠ 0 → ((0 ≤ v2 ∧ v2 < 10) ∧ (iR v2 ∧ (v2 ≠ 7 → K_X8_addAround_80 G l (d + 1) P v1 v3 v4 v5 v6 ((1 + (μ 30 v3)) + r2) (xPS (v2).toNat) (v6 + 1) m8) ∧ (v2 = 7 → K_X8_addAround_80 G l (d + 1) P v1 v3 v4 v5 v6 ((1 + (μ 30 v3)) + r2) (xPS (v2).toNat) (v6 - 1) m8))))))))))) : CV G l (d + 1) mX8_addAround [xr G 26, xi v1, xi v2, xi v3, xi v4, xi v5, xi v6] μ P := by
  refine CC.ofRR (ll := [some (xr G 26), some (xi v1), some (xi v2), some (xi v3), some (xi v4), some (xi v5), some (xi v6), none]) (by decide +kernel) (Nat.le_of_ble_eq_true rfl) rfl (fun h => by cases h) ?_
  refine xr_iconst dX8_addAround_0 ?_
  refine xr_aload_n dX8_addAround_1 rfl ?_
  refine xr_getR dX8_addAround_2 fl_X8_12 L_26 rfl ?_
  refine xr_getR dX8_addAround_5 fl_X8_75 L_27 rfl ?_
  refine xr_iload_n dX8_addAround_8 rfl ?_
  obtain ⟨q1, h⟩ := h
  refine xr_iaload' (v := μ 30 v3) dX8_addAround_9 L_30 rfl (by decide) q1 rfl ?_
  refine xr_iadd dX8_addAround_10 ?_
  refine xr_aload_n dX8_addAround_11 rfl ?_
  refine xr_iload dX8_addAround_12 rfl ?_
  refine xr_cvI (As := [xi v5]) dX8_addAround_14 mi_X8_costOf ml_X8_179 se_X8_costOf L_26 rfl rfl rfl (Nat.le_of_ble_eq_true rfl) h (fun r2 m3 hr2 h => ?_)
  refine xr_iadd dX8_addAround_17 ?_
  refine xr_istore' (ll' := [some (xr G 26), some (xi v1), some (xi v2), some (xi v3), some (xi v4), some (xi v5), some (xi v6), some (xi ((1 + (μ 30 v3)) + r2))]) dX8_addAround_18 (by decide) rfl rfl ?_
  refine xr_aload_n dX8_addAround_20 rfl ?_
  refine xr_getR dX8_addAround_21 fl_X8_12 L_26 rfl ?_
  refine xr_getR dX8_addAround_24 fl_X8_71 L_27 rfl ?_
  refine xr_iload_n dX8_addAround_27 rfl ?_
  refine xr_iaload' (v := m3 29 v3) dX8_addAround_28 L_29 rfl (by decide) q1 rfl ?_
  obtain ⟨q4, hT5, hF6⟩ := h
  refine xr_if_le (tgt := 139) dX8_addAround_29 (by decide) q4  (fun c => ?_) (fun c => ?_)
  · have h := hT5 c
    exact xr_ret dX8_addAround_139 rfl ⟨rfl, rfl, h⟩
  · have h := hF6 (Int.not_le.mp c)
    refine xr_aload_n dX8_addAround_32 rfl ?_
    refine xr_getR dX8_addAround_33 fl_X8_12 L_26 rfl ?_
    refine xr_iload_n dX8_addAround_36 rfl ?_
    refine xr_aload_n dX8_addAround_37 rfl ?_
    refine xr_getR dX8_addAround_38 fl_X8_12 L_26 rfl ?_
    refine xr_getR dX8_addAround_41 fl_X8_71 L_27 rfl ?_
    refine xr_iload_n dX8_addAround_44 rfl ?_
    refine xr_iaload' (v := m3 29 v3) dX8_addAround_45 L_29 rfl (by decide) q1 rfl ?_
    refine xr_iload dX8_addAround_46 rfl ?_
    refine xr_cvI (As := [xi v1, xi (m3 29 v3), xi ((1 + (μ 30 v3)) + r2)]) dX8_addAround_48 mi_X5_offer ml_X8_90 se_X5_offer L_27 rfl rfl rfl (Nat.le_of_ble_eq_true rfl) h (fun r7 m8 hr7 h => ?_)
    obtain ⟨hT9, hF10⟩ := h
    refine xr_if_eq (tgt := 139) dX8_addAround_51 (by decide) hr7  (fun c => ?_) (fun c => ?_)
    · have h := hT9 c
      exact xr_ret dX8_addAround_139 rfl ⟨rfl, rfl, h⟩
    · have h := hF10 c
      refine xr_aload_n dX8_addAround_54 rfl ?_
      refine xr_getR dX8_addAround_55 fl_X8_12 L_26 rfl ?_
      refine xr_ps dX8_addAround_58 fs_X8_176 ?_
      refine xr_iload_n dX8_addAround_61 rfl ?_
      obtain ⟨q11, h⟩ := h
      refine xr_psld dX8_addAround_62 q11 ?_
      refine xr_iload_n dX8_addAround_63 rfl ?_
      refine xr_bipush dX8_addAround_64 (by decide) ?_
      obtain ⟨q12, hT13, hF14⟩ := h
      refine xr_icmp_ne (tgt := 76) dX8_addAround_66 (by decide) q12 (by decide) (fun c => ?_) (fun c => ?_)
      · have h := hT13 c
        refine xr_iload dX8_addAround_76 rfl ?_
        refine xr_iconst dX8_addAround_78 ?_
        refine xr_iadd dX8_addAround_79 ?_
        refine xr_wk (ll' := [some (xr G 26), some (xi v1), none, some (xi v3), some (xi v4), some (xi v5), some (xi v6), some (xi ((1 + (μ 30 v3)) + r2))]) ⟨rfl, ⟨rfl, ⟨rfl, ⟨rfl, ⟨rfl, ⟨rfl, ⟨rfl, trivial⟩⟩⟩⟩⟩⟩⟩ ?_
        exact h
      · have h := hF14 c
        refine xr_iload dX8_addAround_69 rfl ?_
        refine xr_iconst dX8_addAround_71 ?_
        refine xr_isub dX8_addAround_72 ?_
        refine xr_goto (tgt := 80) dX8_addAround_73 (by decide) ?_
        refine xr_wk (ll' := [some (xr G 26), some (xi v1), none, some (xi v3), some (xi v4), some (xi v5), some (xi v6), some (xi ((1 + (μ 30 v3)) + r2))]) ⟨rfl, ⟨rfl, ⟨rfl, ⟨rfl, ⟨rfl, ⟨rfl, ⟨rfl, trivial⟩⟩⟩⟩⟩⟩⟩ ?_
        exact h
set_option maxRecDepth 20000 in
theorem B_X8_addAround_80 {G : xG} {l : Launch} {d : Nat} {P : xMem → Prop} {v1 v3 v4 v5 v6 v7 s1 s2 : Int} {μ : xMem} (h : CV G l d mX5_putWord [xr G 27, xi s1, xi s2] μ (fun m2 => CV G l d mX5_put [xr G 27, xi 1] m2 (fun m4 => CV G l d mX5_putName [xr G 27, xi v3] m4 (fun m6 => CV G l d mX5_put [xr G 27, xi 2] m6 (fun m8 => CV G l d mX5_put [xr G 27, xi (2 + v4)] m8 (fun m10 => CV G l d mX5_putWord [xr G 27, xi v5, xi v6] m10 (fun m12 => CV G l d mX5_keep [xr G 27, xi v1, xi v7] m12 (fun m14 => P m14)))))))) : K_X8_addAround_80 G l (d + 1) P v1 v3 v4 v5 v6 v7 s1 s2 μ := by
  unfold K_X8_addAround_80
  refine xr_cvV (As := [xi s1, xi s2]) dX8_addAround_80 mi_X5_putWord ml_X8_94 se_X5_putWord L_27 rfl rfl rfl (Nat.le_of_ble_eq_true rfl) h (fun m2 h => ?_)
  refine xr_aload_n dX8_addAround_83 rfl ?_
  refine xr_getR dX8_addAround_84 fl_X8_12 L_26 rfl ?_
  refine xr_iconst dX8_addAround_87 ?_
  refine xr_cvV (As := [xi 1]) dX8_addAround_88 mi_X5_put ml_X8_100 se_X5_put L_27 rfl rfl rfl (Nat.le_of_ble_eq_true rfl) h (fun m4 h => ?_)
  refine xr_aload_n dX8_addAround_91 rfl ?_
  refine xr_getR dX8_addAround_92 fl_X8_12 L_26 rfl ?_
  refine xr_iload_n dX8_addAround_95 rfl ?_
  refine xr_cvV (As := [xi v3]) dX8_addAround_96 mi_X5_putName ml_X8_106 se_X5_putName L_27 rfl rfl rfl (Nat.le_of_ble_eq_true rfl) h (fun m6 h => ?_)
  refine xr_aload_n dX8_addAround_99 rfl ?_
  refine xr_getR dX8_addAround_100 fl_X8_12 L_26 rfl ?_
  refine xr_iconst dX8_addAround_103 ?_
  refine xr_cvV (As := [xi 2]) dX8_addAround_104 mi_X5_put ml_X8_100 se_X5_put L_27 rfl rfl rfl (Nat.le_of_ble_eq_true rfl) h (fun m8 h => ?_)
  refine xr_aload_n dX8_addAround_107 rfl ?_
  refine xr_getR dX8_addAround_108 fl_X8_12 L_26 rfl ?_
  refine xr_iconst dX8_addAround_111 ?_
  refine xr_iload dX8_addAround_112 rfl ?_
  refine xr_iadd dX8_addAround_114 ?_
  refine xr_cvV (As := [xi (2 + v4)]) dX8_addAround_115 mi_X5_put ml_X8_100 se_X5_put L_27 rfl rfl rfl (Nat.le_of_ble_eq_true rfl) h (fun m10 h => ?_)
  refine xr_aload_n dX8_addAround_118 rfl ?_
  refine xr_getR dX8_addAround_119 fl_X8_12 L_26 rfl ?_
  refine xr_iload dX8_addAround_122 rfl ?_
  refine xr_iload dX8_addAround_124 rfl ?_
  refine xr_cvV (As := [xi v5, xi v6]) dX8_addAround_126 mi_X5_putWord ml_X8_94 se_X5_putWord L_27 rfl rfl rfl (Nat.le_of_ble_eq_true rfl) h (fun m12 h => ?_)
  refine xr_aload_n dX8_addAround_129 rfl ?_
  refine xr_getR dX8_addAround_130 fl_X8_12 L_26 rfl ?_
  refine xr_iload_n dX8_addAround_133 rfl ?_
  refine xr_iload dX8_addAround_134 rfl ?_
  refine xr_cvV (As := [xi v1, xi v7]) dX8_addAround_136 mi_X5_keep ml_X8_103 se_X5_keep L_27 rfl rfl rfl (Nat.le_of_ble_eq_true rfl) h (fun m14 h => ?_)
  exact xr_ret dX8_addAround_139 rfl ⟨rfl, rfl, h⟩
end Blk30_bX8
