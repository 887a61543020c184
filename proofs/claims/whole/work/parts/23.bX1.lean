/-! blocks of the class's code, printed by program -/
section Blk23_bX1
def K_X1_reviewAll_7 (G : xG) (l : Launch) (d : Nat) (P : Int → xMem → Prop) (v1 v2 : Int) (μ : xMem) : Prop := RR G l d 0 0 false mX1_reviewAll (qI P) 7 [some (xr G 64), some (xi v1), some (xi v2)] [] LAY μ 0 0
set_option maxRecDepth 20000 in
theorem E_X1_reviewAll {G : xG} {l : Launch} {d : Nat} {P : Int → xMem → Prop} {v1 : Int} {μ : xMem} (h : K_X1_reviewAll_7 G l (d + 1) P v1 0 (st2 μ 64 5 0)) : CI G l (d + 1) mX1_reviewAll [xr G 64, xi v1] μ P := by
  refine CC.ofRR (ll := [some (xr G 64), some (xi v1), none]) (by decide +kernel) (Nat.le_of_ble_eq_true rfl) rfl (fun h => by cases h) ?_
  refine xr_aload_n dX1_reviewAll_0 rfl ?_
  refine xr_iconst dX1_reviewAll_1 ?_
  refine xr_putI dX1_reviewAll_2 fp_X1_30 L_64 rfl rfl ⟨rfl, rfl⟩ ?_
  refine xr_iconst dX1_reviewAll_5 ?_
  refine xr_istore_n' (ll' := [some (xr G 64), some (xi v1), some (xi 0)]) dX1_reviewAll_6 (by decide) rfl rfl ?_
  exact h
set_option maxRecDepth 20000 in
theorem B_X1_reviewAll_7 {G : xG} {l : Launch} {d : Nat} {P : Int → xMem → Prop} {v1 v2 : Int} {μ : xMem} (h : (iR v2 ∧ (16 ≤ v2 → (iR (μ 64 5) ∧ P (μ 64 5) μ)) ∧ (v2 < 16 → CI G l d mX2_hasLight [xr G 46, xi v2] μ (fun r5 m6 => ((r5 = 0 → K_X1_reviewAll_7 G l (d + 1) P v1 (v2 + 1) m6) ∧ (r5 ≠ 0 → CV G l d mX1_review [xr G 64, xi v2, xi v1] m6 (fun m10 => K_X1_reviewAll_7 G l (d + 1) P v1 (v2 + 1) m10))))))) : K_X1_reviewAll_7 G l (d + 1) P v1 v2 μ := by
  unfold K_X1_reviewAll_7
  refine xr_iload_n dX1_reviewAll_7 rfl ?_
  refine xr_bipush dX1_reviewAll_8 (by decide) ?_
  obtain ⟨q1, hT2, hF3⟩ := h
  refine xr_icmp_ge (tgt := 36) dX1_reviewAll_10 (by decide) q1 (by decide) (fun c => ?_) (fun c => ?_)
  · have h := hT2 c
    refine xr_aload_n dX1_reviewAll_36 rfl ?_
    refine xr_getI' (v := μ 64 5) dX1_reviewAll_37 fl_X1_30 L_64 rfl rfl rfl ?_
    obtain ⟨q4, h⟩ := h
    exact xr_iret dX1_reviewAll_40 rfl ⟨rfl, _, rfl, q4, h⟩
  · have h := hF3 (Int.not_le.mp c)
    refine xr_aload_n dX1_reviewAll_13 rfl ?_
    refine xr_getR dX1_reviewAll_14 fl_X1_26 L_64 rfl ?_
    refine xr_iload_n dX1_reviewAll_17 rfl ?_
    refine xr_cvI (As := [xi v2]) dX1_reviewAll_18 mi_X2_hasLight ml_X1_34 se_X2_hasLight L_46 rfl rfl rfl (Nat.le_of_ble_eq_true rfl) h (fun r5 m6 hr5 h => ?_)
    obtain ⟨hT7, hF8⟩ := h
    refine xr_if_eq (tgt := 30) dX1_reviewAll_21 (by decide) hr5  (fun c => ?_) (fun c => ?_)
    · have h := hT7 c
      refine xr_iinc' (ll' := [some (xr G 64), some (xi v1), some (xi (v2 + 1))]) dX1_reviewAll_30 rfl (by decide) rfl rfl ?_
      refine xr_goto (tgt := 7) dX1_reviewAll_33 (by decide) ?_
      exact h
    · have h := hF8 c
      refine xr_aload_n dX1_reviewAll_24 rfl ?_
      refine xr_iload_n dX1_reviewAll_25 rfl ?_
      refine xr_iload_n dX1_reviewAll_26 rfl ?_
      refine xr_cvV (As := [xi v2, xi v1]) dX1_reviewAll_27 mi_X1_review ml_X1_40 se_X1_review L_64 rfl rfl rfl (Nat.le_of_ble_eq_true rfl) h (fun m10 h => ?_)
      refine xr_iinc' (ll' := [some (xr G 64), some (xi v1), some (xi (v2 + 1))]) dX1_reviewAll_30 rfl (by decide) rfl rfl ?_
      refine xr_goto (tgt := 7) dX1_reviewAll_33 (by decide) ?_
      exact h
def K_X1_review_33 (G : xG) (l : Launch) (d : Nat) (P : xMem → Prop) (v1 v2 v3 v4 s1 : Int) (μ : xMem) : Prop := RR G l d 0 0 false mX1_review (qV P) 33 [some (xr G 64), some (xi v1), some (xi v2), some (xi v3), some (xi v4)] [xi s1, xr G 64] LAY μ 0 0
def K_X1_review_61 (G : xG) (l : Launch) (d : Nat) (P : xMem → Prop) (v1 v2 v3 v4 s1 : Int) (μ : xMem) : Prop := RR G l d 0 0 false mX1_review (qV P) 61 [some (xr G 64), some (xi v1), some (xi v2), some (xi v3), some (xi v4)] [xi s1, xr G 64] LAY μ 0 0
def K_X1_review_86 (G : xG) (l : Launch) (d : Nat) (P : xMem → Prop) (v1 v2 v3 v4 s1 : Int) (μ : xMem) : Prop := RR G l d 0 0 false mX1_review (qV P) 86 [some (xr G 64), some (xi v1), some (xi v2), some (xi v3), some (xi v4)] [xi s1, xr G 64] LAY μ 0 0
def K_X1_review_116 (G : xG) (l : Launch) (d : Nat) (P : xMem → Prop) (v1 v2 v3 v4 s1 : Int) (μ : xMem) : Prop := RR G l d 0 0 false mX1_review (qV P) 116 [some (xr G 64), some (xi v1), some (xi v2), some (xi v3), some (xi v4)] [xi s1, xr G 64] LAY μ 0 0
set_option maxRecDepth 20000 in
theorem E_X1_review {G : xG} {l : Launch} {d : Nat} {P : xMem → Prop} {v1 v2 : Int} {μ : xMem} (h : CI G l d mX2_solutionOf [xr G 46, xi v1, xi v2] μ (fun r1 m2 => ((r1 = (-1) → K_X1_review_33 G l (d + 1) P v1 v2 r1 0 1 m2) ∧ (r1 ≠ (-1) → K_X1_review_33 G l (d + 1) P v1 v2 r1 1 0 m2)))) : CV G l (d + 1) mX1_review [xr G 64, xi v1, xi v2] μ P := by
  refine CC.ofRR (ll := [some (xr G 64), some (xi v1), some (xi v2), none, none]) (by decide +kernel) (Nat.le_of_ble_eq_true rfl) rfl (fun h => by cases h) ?_
  refine xr_aload_n dX1_review_0 rfl ?_
  refine xr_getR dX1_review_1 fl_X1_26 L_64 rfl ?_
  refine xr_iload_n dX1_review_4 rfl ?_
  refine xr_iload_n dX1_review_5 rfl ?_
  refine xr_cvI (As := [xi v1, xi v2]) dX1_review_6 mi_X2_solutionOf ml_X1_44 se_X2_solutionOf L_46 rfl rfl rfl (Nat.le_of_ble_eq_true rfl) h (fun r1 m2 hr1 h => ?_)
  refine xr_istore_n' (ll' := [some (xr G 64), some (xi v1), some (xi v2), some (xi r1), none]) dX1_review_9 (by decide) rfl rfl ?_
  refine xr_iload_n dX1_review_10 rfl ?_
  refine xr_iconst dX1_review_11 ?_
  obtain ⟨hT3, hF4⟩ := h
  refine xr_icmp_eq (tgt := 19) dX1_review_12 (by decide) hr1 (by decide) (fun c => ?_) (fun c => ?_)
  · have h := hT3 c
    refine xr_iconst dX1_review_19 ?_
    refine xr_istore' (ll' := [some (xr G 64), some (xi v1), some (xi v2), some (xi r1), some (xi 0)]) dX1_review_20 (by decide) rfl rfl ?_
    refine xr_aload_n dX1_review_22 rfl ?_
    refine xr_iload dX1_review_23 rfl ?_
    refine xr_if_ne (tgt := 32) dX1_review_25 (by decide) (by decide)  (fun c => absurd c (by decide)) (fun _ => ?_)
    refine xr_iconst dX1_review_28 ?_
    refine xr_goto (tgt := 33) dX1_review_29 (by decide) ?_
    exact h
  · have h := hF4 c
    refine xr_iconst dX1_review_15 ?_
    refine xr_goto (tgt := 20) dX1_review_16 (by decide) ?_
    refine xr_istore' (ll' := [some (xr G 64), some (xi v1), some (xi v2), some (xi r1), some (xi 1)]) dX1_review_20 (by decide) rfl rfl ?_
    refine xr_aload_n dX1_review_22 rfl ?_
    refine xr_iload dX1_review_23 rfl ?_
    refine xr_if_ne (tgt := 32) dX1_review_25 (by decide) (by decide)  (fun _ => ?_) (fun c => absurd c (by decide))
    refine xr_iconst dX1_review_32 ?_
    exact h
set_option maxRecDepth 20000 in
theorem B_X1_review_33 {G : xG} {l : Launch} {d : Nat} {P : xMem → Prop} {v1 v2 v3 v4 s1 : Int} {μ : xMem} (h : CV G l d mX1_noteIf [xr G 64, xi s1, xi 1, xi v1] μ (fun m2 => (iR v4 ∧ (v4 = 0 → K_X1_review_61 G l (d + 1) P v1 v2 v3 v4 0 m2) ∧ (v4 ≠ 0 → CI G l d mX6_has [xr G 40, xi v1, xi v3] m2 (fun r6 m7 => ((r6 ≠ 0 → K_X1_review_61 G l (d + 1) P v1 v2 v3 v4 0 m7) ∧ (r6 = 0 → K_X1_review_61 G l (d + 1) P v1 v2 v3 v4 1 m7))))))) : K_X1_review_33 G l (d + 1) P v1 v2 v3 v4 s1 μ := by
  unfold K_X1_review_33
  refine xr_iconst dX1_review_33 ?_
  refine xr_iload_n dX1_review_34 rfl ?_
  refine xr_cvV (As := [xi s1, xi 1, xi v1]) dX1_review_35 mi_X1_noteIf ml_X1_48 se_X1_noteIf L_64 rfl rfl rfl (Nat.le_of_ble_eq_true rfl) h (fun m2 h => ?_)
  refine xr_aload_n dX1_review_38 rfl ?_
  refine xr_iload dX1_review_39 rfl ?_
  obtain ⟨q3, hT4, hF5⟩ := h
  refine xr_if_eq (tgt := 60) dX1_review_41 (by decide) q3  (fun c => ?_) (fun c => ?_)
  · have h := hT4 c
    refine xr_iconst dX1_review_60 ?_
    exact h
  · have h := hF5 c
    refine xr_aload_n dX1_review_44 rfl ?_
    refine xr_getR dX1_review_45 fl_X1_22 L_64 rfl ?_
    refine xr_iload_n dX1_review_48 rfl ?_
    refine xr_iload_n dX1_review_49 rfl ?_
    refine xr_cvI (As := [xi v1, xi v3]) dX1_review_50 mi_X6_has ml_X1_52 se_X6_has L_40 rfl rfl rfl (Nat.le_of_ble_eq_true rfl) h (fun r6 m7 hr6 h => ?_)
    obtain ⟨hT8, hF9⟩ := h
    refine xr_if_ne (tgt := 60) dX1_review_53 (by decide) hr6  (fun c => ?_) (fun c => ?_)
    · have h := hT8 c
      refine xr_iconst dX1_review_60 ?_
      exact h
    · have h := hF9 c
      refine xr_iconst dX1_review_56 ?_
      refine xr_goto (tgt := 61) dX1_review_57 (by decide) ?_
      exact h
set_option maxRecDepth 20000 in
theorem B_X1_review_61 {G : xG} {l : Launch} {d : Nat} {P : xMem → Prop} {v1 v2 v3 v4 s1 : Int} {μ : xMem} (h : CV G l d mX1_noteIf [xr G 64, xi s1, xi 2, xi v1] μ (fun m2 => (iR v4 ∧ (v4 = 0 → K_X1_review_86 G l (d + 1) P v1 v2 v3 v4 0 m2) ∧ (v4 ≠ 0 → CI G l d mX1_hasRival [xr G 64, xi v1, xi v3] m2 (fun r6 m7 => ((r6 = 0 → K_X1_review_86 G l (d + 1) P v1 v2 v3 v4 0 m7) ∧ (r6 ≠ 0 → K_X1_review_86 G l (d + 1) P v1 v2 v3 v4 1 m7))))))) : K_X1_review_61 G l (d + 1) P v1 v2 v3 v4 s1 μ := by
  unfold K_X1_review_61
  refine xr_iconst dX1_review_61 ?_
  refine xr_iload_n dX1_review_62 rfl ?_
  refine xr_cvV (As := [xi s1, xi 2, xi v1]) dX1_review_63 mi_X1_noteIf ml_X1_48 se_X1_noteIf L_64 rfl rfl rfl (Nat.le_of_ble_eq_true rfl) h (fun m2 h => ?_)
  refine xr_aload_n dX1_review_66 rfl ?_
  refine xr_iload dX1_review_67 rfl ?_
  obtain ⟨q3, hT4, hF5⟩ := h
  refine xr_if_eq (tgt := 85) dX1_review_69 (by decide) q3  (fun c => ?_) (fun c => ?_)
  · have h := hT4 c
    refine xr_iconst dX1_review_85 ?_
    exact h
  · have h := hF5 c
    refine xr_aload_n dX1_review_72 rfl ?_
    refine xr_iload_n dX1_review_73 rfl ?_
    refine xr_iload_n dX1_review_74 rfl ?_
    refine xr_cvI (As := [xi v1, xi v3]) dX1_review_75 mi_X1_hasRival ml_X1_58 se_X1_hasRival L_64 rfl rfl rfl (Nat.le_of_ble_eq_true rfl) h (fun r6 m7 hr6 h => ?_)
    obtain ⟨hT8, hF9⟩ := h
    refine xr_if_eq (tgt := 85) dX1_review_78 (by decide) hr6  (fun c => ?_) (fun c => ?_)
    · have h := hT8 c
      refine xr_iconst dX1_review_85 ?_
      exact h
    · have h := hF9 c
      refine xr_iconst dX1_review_81 ?_
      refine xr_goto (tgt := 86) dX1_review_82 (by decide) ?_
      exact h
set_option maxRecDepth 20000 in
theorem B_X1_review_86 {G : xG} {l : Launch} {d : Nat} {P : xMem → Prop} {v1 v2 v3 v4 s1 : Int} {μ : xMem} (h : CV G l d mX1_noteIf [xr G 64, xi s1, xi 3, xi v1] μ (fun m2 => CI G l d mX1_crossed [xr G 64, xi v1] m2 (fun r3 m4 => ((0 ≤ v1 ∧ v1 < 16) ∧ (iR (2 * r3) ∧ iR (m4 49 v1) ∧ ((m4 49 v1) ≤ (2 * r3) → K_X1_review_116 G l (d + 1) P v1 v2 v3 v4 0 m4) ∧ ((2 * r3) < (m4 49 v1) → K_X1_review_116 G l (d + 1) P v1 v2 v3 v4 1 m4)))))) : K_X1_review_86 G l (d + 1) P v1 v2 v3 v4 s1 μ := by
  unfold K_X1_review_86
  refine xr_iconst dX1_review_86 ?_
  refine xr_iload_n dX1_review_87 rfl ?_
  refine xr_cvV (As := [xi s1, xi 3, xi v1]) dX1_review_88 mi_X1_noteIf ml_X1_48 se_X1_noteIf L_64 rfl rfl rfl (Nat.le_of_ble_eq_true rfl) h (fun m2 h => ?_)
  refine xr_aload_n dX1_review_91 rfl ?_
  refine xr_iconst dX1_review_92 ?_
  refine xr_aload_n dX1_review_93 rfl ?_
  refine xr_iload_n dX1_review_94 rfl ?_
  refine xr_cvI (As := [xi v1]) dX1_review_95 mi_X1_crossed ml_X1_61 se_X1_crossed L_64 rfl rfl rfl (Nat.le_of_ble_eq_true rfl) h (fun r3 m4 hr3 h => ?_)
  refine xr_imul dX1_review_98 ?_
  refine xr_aload_n dX1_review_99 rfl ?_
  refine xr_getR dX1_review_100 fl_X1_26 L_64 rfl ?_
  refine xr_getR dX1_review_103 fl_X1_65 L_46 rfl ?_
  refine xr_iload_n dX1_review_106 rfl ?_
  obtain ⟨q5, h⟩ := h
  refine xr_iaload' (v := m4 49 v1) dX1_review_107 L_49 rfl (by decide) q5 rfl ?_
  obtain ⟨q6, q7, hT8, hF9⟩ := h
  refine xr_icmp_ge (tgt := 115) dX1_review_108 (by decide) q6 q7 (fun c => ?_) (fun c => ?_)
  · have h := hT8 c
    refine xr_iconst dX1_review_115 ?_
    exact h
  · have h := hF9 (Int.not_le.mp c)
    refine xr_iconst dX1_review_111 ?_
    refine xr_goto (tgt := 116) dX1_review_112 (by decide) ?_
    exact h
set_option maxRecDepth 20000 in
theorem B_X1_review_116 {G : xG} {l : Launch} {d : Nat} {P : xMem → Prop} {v1 v2 v3 v4 s1 : Int} {μ : xMem} (h : CV G l d mX1_noteIf [xr G 64, xi s1, xi 4, xi v1] μ (fun m2 => (iR v4 ∧ (v4 = 0 → CV G l d mX1_noteIf [xr G 64, xi 0, xi 5, xi v1] m2 (fun m7 => P m7)) ∧ (v4 ≠ 0 → CI G l d mX1_clashes [xr G 64, xi v1, xi v3, xi v2] m2 (fun r8 m9 => ((r8 = 0 → CV G l d mX1_noteIf [xr G 64, xi 0, xi 5, xi v1] m9 (fun m13 => P m13)) ∧ (r8 ≠ 0 → CV G l d mX1_noteIf [xr G 64, xi 1, xi 5, xi v1] m9 (fun m15 => P m15)))))))) : K_X1_review_116 G l (d + 1) P v1 v2 v3 v4 s1 μ := by
  unfold K_X1_review_116
  refine xr_iconst dX1_review_116 ?_
  refine xr_iload_n dX1_review_117 rfl ?_
  refine xr_cvV (As := [xi s1, xi 4, xi v1]) dX1_review_118 mi_X1_noteIf ml_X1_48 se_X1_noteIf L_64 rfl rfl rfl (Nat.le_of_ble_eq_true rfl) h (fun m2 h => ?_)
  refine xr_aload_n dX1_review_121 rfl ?_
  refine xr_iload dX1_review_122 rfl ?_
  obtain ⟨q3, hT4, hF5⟩ := h
  refine xr_if_eq (tgt := 141) dX1_review_124 (by decide) q3  (fun c => ?_) (fun c => ?_)
  · have h := hT4 c
    refine xr_iconst dX1_review_141 ?_
    refine xr_iconst dX1_review_142 ?_
    refine xr_iload_n dX1_review_143 rfl ?_
    refine xr_cvV (As := [xi 0, xi 5, xi v1]) dX1_review_144 mi_X1_noteIf ml_X1_48 se_X1_noteIf L_64 rfl rfl rfl (Nat.le_of_ble_eq_true rfl) h (fun m7 h => ?_)
    exact xr_ret dX1_review_147 rfl ⟨rfl, rfl, h⟩
  · have h := hF5 c
    refine xr_aload_n dX1_review_127 rfl ?_
    refine xr_iload_n dX1_review_128 rfl ?_
    refine xr_iload_n dX1_review_129 rfl ?_
    refine xr_iload_n dX1_review_130 rfl ?_
    refine xr_cvI (As := [xi v1, xi v3, xi v2]) dX1_review_131 mi_X1_clashes ml_X1_68 se_X1_clashes L_64 rfl rfl rfl (Nat.le_of_ble_eq_true rfl) h (fun r8 m9 hr8 h => ?_)
    obtain ⟨hT10, hF11⟩ := h
    refine xr_if_eq (tgt := 141) dX1_review_134 (by decide) hr8  (fun c => ?_) (fun c => ?_)
    · have h := hT10 c
      refine xr_iconst dX1_review_141 ?_
      refine xr_iconst dX1_review_142 ?_
      refine xr_iload_n dX1_review_143 rfl ?_
      refine xr_cvV (As := [xi 0, xi 5, xi v1]) dX1_review_144 mi_X1_noteIf ml_X1_48 se_X1_noteIf L_64 rfl rfl rfl (Nat.le_of_ble_eq_true rfl) h (fun m13 h => ?_)
      exact xr_ret dX1_review_147 rfl ⟨rfl, rfl, h⟩
    · have h := hF11 c
      refine xr_iconst dX1_review_137 ?_
      refine xr_goto (tgt := 142) dX1_review_138 (by decide) ?_
      refine xr_iconst dX1_review_142 ?_
      refine xr_iload_n dX1_review_143 rfl ?_
      refine xr_cvV (As := [xi 1, xi 5, xi v1]) dX1_review_144 mi_X1_noteIf ml_X1_48 se_X1_noteIf L_64 rfl rfl rfl (Nat.le_of_ble_eq_true rfl) h (fun m15 h => ?_)
      exact xr_ret dX1_review_147 rfl ⟨rfl, rfl, h⟩
set_option maxRecDepth 20000 in
theorem E_X1_noteIf {G : xG} {l : Launch} {d : Nat} {P : xMem → Prop} {v1 v2 v3 : Int} {μ : xMem} (h : (iR v1 ∧ (v1 = 0 → P μ) ∧ (v1 ≠ 0 → (iR (μ 64 5) ∧ (80 ≤ (μ 64 5) → P μ) ∧ ((μ 64 5) < 80 → ((0 ≤ μ 64 5 ∧ μ 64 5 < 80) ∧ P (st2 (st2 (st2 μ 65 (μ 64 5) v2) 66 (μ 64 5) v3) 64 5 ((μ 64 5) + 1)))))))) : CV G l (d + 1) mX1_noteIf [xr G 64, xi v1, xi v2, xi v3] μ P := by
  refine CC.ofRR (ll := [some (xr G 64), some (xi v1), some (xi v2), some (xi v3)]) (by decide +kernel) (Nat.le_of_ble_eq_true rfl) rfl (fun h => by cases h) ?_
  refine xr_iload_n dX1_noteIf_0 rfl ?_
  obtain ⟨q1, hT2, hF3⟩ := h
  refine xr_if_eq (tgt := 46) dX1_noteIf_1 (by decide) q1  (fun c => ?_) (fun c => ?_)
  · have h := hT2 c
    exact xr_ret dX1_noteIf_46 rfl ⟨rfl, rfl, h⟩
  · have h := hF3 c
    refine xr_aload_n dX1_noteIf_4 rfl ?_
    refine xr_getI' (v := μ 64 5) dX1_noteIf_5 fl_X1_30 L_64 rfl rfl rfl ?_
    refine xr_aload_n dX1_noteIf_8 rfl ?_
    refine xr_getR dX1_noteIf_9 fl_X1_9 L_64 rfl ?_
    refine xr_alen dX1_noteIf_12 L_65 (by decide) rfl ?_
    obtain ⟨q4, hT5, hF6⟩ := h
    refine xr_icmp_ge (tgt := 46) dX1_noteIf_13 (by decide) q4 (by decide) (fun c => ?_) (fun c => ?_)
    · have h := hT5 c
      exact xr_ret dX1_noteIf_46 rfl ⟨rfl, rfl, h⟩
    · have h := hF6 (Int.not_le.mp c)
      refine xr_aload_n dX1_noteIf_16 rfl ?_
      refine xr_getR dX1_noteIf_17 fl_X1_9 L_64 rfl ?_
      refine xr_aload_n dX1_noteIf_20 rfl ?_
      refine xr_getI' (v := μ 64 5) dX1_noteIf_21 fl_X1_30 L_64 rfl rfl rfl ?_
      refine xr_iload_n dX1_noteIf_24 rfl ?_
      obtain ⟨q7, h⟩ := h
      refine xr_iastore dX1_noteIf_25 L_65 rfl (by decide) q7 ?_
      refine xr_aload_n dX1_noteIf_26 rfl ?_
      refine xr_getR dX1_noteIf_27 fl_X1_15 L_64 rfl ?_
      refine xr_aload_n dX1_noteIf_30 rfl ?_
      refine xr_getI' (v := μ 64 5) dX1_noteIf_31 fl_X1_30 L_64 rfl rfl (by simp [st2, cpy]) ?_
      refine xr_iload_n dX1_noteIf_34 rfl ?_
      refine xr_iastore dX1_noteIf_35 L_66 rfl (by decide) q7 ?_
      refine xr_aload_n dX1_noteIf_36 rfl ?_
      refine xr_dup dX1_noteIf_37 rfl ?_
      refine xr_getI' (v := μ 64 5) dX1_noteIf_38 fl_X1_30 L_64 rfl rfl (by simp [st2, cpy]) ?_
      refine xr_iconst dX1_noteIf_41 ?_
      refine xr_iadd dX1_noteIf_42 ?_
      refine xr_putI dX1_noteIf_43 fp_X1_30 L_64 rfl rfl ⟨rfl, rfl⟩ ?_
      exact xr_ret dX1_noteIf_46 rfl ⟨rfl, rfl, h⟩
def K_X1_hasRival_2 (G : xG) (l : Launch) (d : Nat) (P : Int → xMem → Prop) (v1 v2 v3 : Int) (μ : xMem) : Prop := RR G l d 0 0 false mX1_hasRival (qI P) 2 [some (xr G 64), some (xi v1), some (xi v2), some (xi v3), none] [] LAY μ 0 0
set_option maxRecDepth 20000 in
theorem E_X1_hasRival {G : xG} {l : Launch} {d : Nat} {P : Int → xMem → Prop} {v1 v2 : Int} {μ : xMem} (h : K_X1_hasRival_2 G l (d + 1) P v1 v2 0 μ) : CI G l (d + 1) mX1_hasRival [xr G 64, xi v1, xi v2] μ P := by
  refine CC.ofRR (ll := [some (xr G 64), some (xi v1), some (xi v2), none, none]) (by decide +kernel) (Nat.le_of_ble_eq_true rfl) rfl (fun h => by cases h) ?_
  refine xr_iconst dX1_hasRival_0 ?_
  refine xr_istore_n' (ll' := [some (xr G 64), some (xi v1), some (xi v2), some (xi 0), none]) dX1_hasRival_1 (by decide) rfl rfl ?_
  exact h
set_option maxRecDepth 20000 in
theorem B_X1_hasRival_2 {G : xG} {l : Launch} {d : Nat} {P : Int → xMem → Prop} {v1 v2 v3 : Int} {μ : xMem} (h : ((0 ≤ v1 ∧ v1 < 16) ∧ (iR v3 ∧ iR (μ 42 v1) ∧ ((μ 42 v1) ≤ v3 → P 0 μ) ∧ (v3 < (μ 42 v1) → CI G l d mX6_wordAt [xr G 40, xi v1, xi v3] μ (fun r6 m7 => (iR v2 ∧ (r6 = v2 → K_X1_hasRival_2 G l (d + 1) P v1 v2 (v3 + 1) m7) ∧ (r6 ≠ v2 → CI G l d mX1_isAlikeWhereCrossed [xr G 64, xi v1, xi r6, xi v2] m7 (fun r11 m12 => ((r11 = 0 → K_X1_hasRival_2 G l (d + 1) P v1 v2 (v3 + 1) m12) ∧ (r11 ≠ 0 → P 1 m12)))))))))) : K_X1_hasRival_2 G l (d + 1) P v1 v2 v3 μ := by
  unfold K_X1_hasRival_2
  refine xr_iload_n dX1_hasRival_2 rfl ?_
  refine xr_aload_n dX1_hasRival_3 rfl ?_
  refine xr_getR dX1_hasRival_4 fl_X1_22 L_64 rfl ?_
  refine xr_getR dX1_hasRival_7 fl_X1_72 L_40 rfl ?_
  refine xr_iload_n dX1_hasRival_10 rfl ?_
  obtain ⟨q1, h⟩ := h
  refine xr_iaload' (v := μ 42 v1) dX1_hasRival_11 L_42 rfl (by decide) q1 rfl ?_
  obtain ⟨q2, q3, hT4, hF5⟩ := h
  refine xr_icmp_ge (tgt := 51) dX1_hasRival_12 (by decide) q2 q3 (fun c => ?_) (fun c => ?_)
  · have h := hT4 c
    refine xr_iconst dX1_hasRival_51 ?_
    exact xr_zret dX1_hasRival_52 rfl (x_nz (by decide)).1 ⟨rfl, _, rfl, x_01 (by decide), h⟩
  · have h := hF5 (Int.not_le.mp c)
    refine xr_aload_n dX1_hasRival_15 rfl ?_
    refine xr_getR dX1_hasRival_16 fl_X1_22 L_64 rfl ?_
    refine xr_iload_n dX1_hasRival_19 rfl ?_
    refine xr_iload_n dX1_hasRival_20 rfl ?_
    refine xr_cvI (As := [xi v1, xi v3]) dX1_hasRival_21 mi_X6_wordAt ml_X1_75 se_X6_wordAt L_40 rfl rfl rfl (Nat.le_of_ble_eq_true rfl) h (fun r6 m7 hr6 h => ?_)
    refine xr_istore' (ll' := [some (xr G 64), some (xi v1), some (xi v2), some (xi v3), some (xi r6)]) dX1_hasRival_24 (by decide) rfl rfl ?_
    refine xr_iload dX1_hasRival_26 rfl ?_
    refine xr_iload_n dX1_hasRival_28 rfl ?_
    obtain ⟨q8, hT9, hF10⟩ := h
    refine xr_icmp_eq (tgt := 45) dX1_hasRival_29 (by decide) hr6 q8 (fun c => ?_) (fun c => ?_)
    · have h := hT9 c
      refine xr_iinc' (ll' := [some (xr G 64), some (xi v1), some (xi v2), some (xi (v3 + 1)), some (xi r6)]) dX1_hasRival_45 rfl (by decide) rfl rfl ?_
      refine xr_goto (tgt := 2) dX1_hasRival_48 (by decide) ?_
      refine xr_wk (ll' := [some (xr G 64), some (xi v1), some (xi v2), some (xi (v3 + 1)), none]) ⟨rfl, ⟨rfl, ⟨rfl, ⟨rfl, trivial⟩⟩⟩⟩ ?_
      exact h
    · have h := hF10 c
      refine xr_aload_n dX1_hasRival_32 rfl ?_
      refine xr_iload_n dX1_hasRival_33 rfl ?_
      refine xr_iload dX1_hasRival_34 rfl ?_
      refine xr_iload_n dX1_hasRival_36 rfl ?_
      refine xr_cvI (As := [xi v1, xi r6, xi v2]) dX1_hasRival_37 mi_X1_isAlikeWhereCrossed ml_X1_78 se_X1_isAlikeWhereCrossed L_64 rfl rfl rfl (Nat.le_of_ble_eq_true rfl) h (fun r11 m12 hr11 h => ?_)
      obtain ⟨hT13, hF14⟩ := h
      refine xr_if_eq (tgt := 45) dX1_hasRival_40 (by decide) hr11  (fun c => ?_) (fun c => ?_)
      · have h := hT13 c
        refine xr_iinc' (ll' := [some (xr G 64), some (xi v1), some (xi v2), some (xi (v3 + 1)), some (xi r6)]) dX1_hasRival_45 rfl (by decide) rfl rfl ?_
        refine xr_goto (tgt := 2) dX1_hasRival_48 (by decide) ?_
        refine xr_wk (ll' := [some (xr G 64), some (xi v1), some (xi v2), some (xi (v3 + 1)), none]) ⟨rfl, ⟨rfl, ⟨rfl, ⟨rfl, trivial⟩⟩⟩⟩ ?_
        exact h
      · have h := hF14 c
        refine xr_iconst dX1_hasRival_43 ?_
        exact xr_zret dX1_hasRival_44 rfl (x_nz (by decide)).1 ⟨rfl, _, rfl, x_01 (by decide), h⟩
def K_X1_isAlikeWhereCrossed_3 (G : xG) (l : Launch) (d : Nat) (P : Int → xMem → Prop) (v1 v2 v3 v4 : Int) (μ : xMem) : Prop := RR G l d 0 0 false mX1_isAlikeWhereCrossed (qI P) 3 [some (xr G 64), some (xi v1), some (xi v2), some (xi v3), some (xi v4), none] [] LAY μ 0 0
set_option maxRecDepth 20000 in
theorem E_X1_isAlikeWhereCrossed {G : xG} {l : Launch} {d : Nat} {P : Int → xMem → Prop} {v1 v2 v3 : Int} {μ : xMem} (h : K_X1_isAlikeWhereCrossed_3 G l (d + 1) P v1 v2 v3 0 μ) : CI G l (d + 1) mX1_isAlikeWhereCrossed [xr G 64, xi v1, xi v2, xi v3] μ P := by
  refine CC.ofRR (ll := [some (xr G 64), some (xi v1), some (xi v2), some (xi v3), none, none]) (by decide +kernel) (Nat.le_of_ble_eq_true rfl) rfl (fun h => by cases h) ?_
  refine xr_iconst dX1_isAlikeWhereCrossed_0 ?_
  refine xr_istore' (ll' := [some (xr G 64), some (xi v1), some (xi v2), some (xi v3), some (xi 0), none]) dX1_isAlikeWhereCrossed_1 (by decide) rfl rfl ?_
  exact h
set_option maxRecDepth 20000 in
theorem B_X1_isAlikeWhereCrossed_3 {G : xG} {l : Launch} {d : Nat} {P : Int → xMem → Prop} {v1 v2 v3 v4 : Int} {μ : xMem} (h : (iR v4 ∧ (16 ≤ v4 → P 1 μ) ∧ (v4 < 16 → CI G l d mX2_crossingOf [xr G 46, xi v1, xi v4] μ (fun r4 m5 => ((r4 = (-1) → K_X1_isAlikeWhereCrossed_3 G l (d + 1) P v1 v2 v3 (v4 + 1) m5) ∧ (r4 ≠ (-1) → CI G l d mX3_letterAt [xr G 3, xi v2, xi r4] m5 (fun r8 m9 => CI G l d mX3_letterAt [xr G 3, xi v3, xi r4] m9 (fun r10 m11 => ((r8 = r10 → K_X1_isAlikeWhereCrossed_3 G l (d + 1) P v1 v2 v3 (v4 + 1) m11) ∧ (r8 ≠ r10 → P 0 m11)))))))))) : K_X1_isAlikeWhereCrossed_3 G l (d + 1) P v1 v2 v3 v4 μ := by
  unfold K_X1_isAlikeWhereCrossed_3
  refine xr_iload dX1_isAlikeWhereCrossed_3 rfl ?_
  refine xr_bipush dX1_isAlikeWhereCrossed_5 (by decide) ?_
  obtain ⟨q1, hT2, hF3⟩ := h
  refine xr_icmp_ge (tgt := 59) dX1_isAlikeWhereCrossed_7 (by decide) q1 (by decide) (fun c => ?_) (fun c => ?_)
  · have h := hT2 c
    refine xr_iconst dX1_isAlikeWhereCrossed_59 ?_
    exact xr_zret dX1_isAlikeWhereCrossed_60 rfl (x_nz (by decide)).1 ⟨rfl, _, rfl, x_01 (by decide), h⟩
  · have h := hF3 (Int.not_le.mp c)
    refine xr_aload_n dX1_isAlikeWhereCrossed_10 rfl ?_
    refine xr_getR dX1_isAlikeWhereCrossed_11 fl_X1_26 L_64 rfl ?_
    refine xr_iload_n dX1_isAlikeWhereCrossed_14 rfl ?_
    refine xr_iload dX1_isAlikeWhereCrossed_15 rfl ?_
    refine xr_cvI (As := [xi v1, xi v4]) dX1_isAlikeWhereCrossed_17 mi_X2_crossingOf ml_X1_81 se_X2_crossingOf L_46 rfl rfl rfl (Nat.le_of_ble_eq_true rfl) h (fun r4 m5 hr4 h => ?_)
    refine xr_istore' (ll' := [some (xr G 64), some (xi v1), some (xi v2), some (xi v3), some (xi v4), some (xi r4)]) dX1_isAlikeWhereCrossed_20 (by decide) rfl rfl ?_
    refine xr_iload dX1_isAlikeWhereCrossed_22 rfl ?_
    refine xr_iconst dX1_isAlikeWhereCrossed_24 ?_
    obtain ⟨hT6, hF7⟩ := h
    refine xr_icmp_eq (tgt := 53) dX1_isAlikeWhereCrossed_25 (by decide) hr4 (by decide) (fun c => ?_) (fun c => ?_)
    · have h := hT6 c
      refine xr_iinc' (ll' := [some (xr G 64), some (xi v1), some (xi v2), some (xi v3), some (xi (v4 + 1)), some (xi r4)]) dX1_isAlikeWhereCrossed_53 rfl (by decide) rfl rfl ?_
      refine xr_goto (tgt := 3) dX1_isAlikeWhereCrossed_56 (by decide) ?_
      refine xr_wk (ll' := [some (xr G 64), some (xi v1), some (xi v2), some (xi v3), some (xi (v4 + 1)), none]) ⟨rfl, ⟨rfl, ⟨rfl, ⟨rfl, ⟨rfl, trivial⟩⟩⟩⟩⟩ ?_
      exact h
    · have h := hF7 c
      refine xr_aload_n dX1_isAlikeWhereCrossed_28 rfl ?_
      refine xr_getR dX1_isAlikeWhereCrossed_29 fl_X1_18 L_64 rfl ?_
      refine xr_iload_n dX1_isAlikeWhereCrossed_32 rfl ?_
      refine xr_iload dX1_isAlikeWhereCrossed_33 rfl ?_
      refine xr_cvI (As := [xi v2, xi r4]) dX1_isAlikeWhereCrossed_35 mi_X3_letterAt ml_X1_84 se_X3_letterAt L_3 rfl rfl rfl (Nat.le_of_ble_eq_true rfl) h (fun r8 m9 hr8 h => ?_)
      refine xr_aload_n dX1_isAlikeWhereCrossed_38 rfl ?_
      refine xr_getR dX1_isAlikeWhereCrossed_39 fl_X1_18 L_64 rfl ?_
      refine xr_iload_n dX1_isAlikeWhereCrossed_42 rfl ?_
      refine xr_iload dX1_isAlikeWhereCrossed_43 rfl ?_
      refine xr_cvI (As := [xi v3, xi r4]) dX1_isAlikeWhereCrossed_45 mi_X3_letterAt ml_X1_84 se_X3_letterAt L_3 rfl rfl rfl (Nat.le_of_ble_eq_true rfl) h (fun r10 m11 hr10 h => ?_)
      obtain ⟨hT12, hF13⟩ := h
      refine xr_icmp_eq (tgt := 53) dX1_isAlikeWhereCrossed_48 (by decide) hr8 hr10 (fun c => ?_) (fun c => ?_)
      · have h := hT12 c
        refine xr_iinc' (ll' := [some (xr G 64), some (xi v1), some (xi v2), some (xi v3), some (xi (v4 + 1)), some (xi r4)]) dX1_isAlikeWhereCrossed_53 rfl (by decide) rfl rfl ?_
        refine xr_goto (tgt := 3) dX1_isAlikeWhereCrossed_56 (by decide) ?_
        refine xr_wk (ll' := [some (xr G 64), some (xi v1), some (xi v2), some (xi v3), some (xi (v4 + 1)), none]) ⟨rfl, ⟨rfl, ⟨rfl, ⟨rfl, ⟨rfl, trivial⟩⟩⟩⟩⟩ ?_
        exact h
      · have h := hF13 c
        refine xr_iconst dX1_isAlikeWhereCrossed_51 ?_
        exact xr_zret dX1_isAlikeWhereCrossed_52 rfl (x_nz (by decide)).1 ⟨rfl, _, rfl, x_01 (by decide), h⟩
def K_X1_crossed_4 (G : xG) (l : Launch) (d : Nat) (P : Int → xMem → Prop) (v1 v2 v3 : Int) (μ : xMem) : Prop := RR G l d 0 0 false mX1_crossed (qI P) 4 [some (xr G 64), some (xi v1), some (xi v2), some (xi v3)] [] LAY μ 0 0
set_option maxRecDepth 20000 in
theorem E_X1_crossed {G : xG} {l : Launch} {d : Nat} {P : Int → xMem → Prop} {v1 : Int} {μ : xMem} (h : K_X1_crossed_4 G l (d + 1) P v1 0 0 μ) : CI G l (d + 1) mX1_crossed [xr G 64, xi v1] μ P := by
  refine CC.ofRR (ll := [some (xr G 64), some (xi v1), none, none]) (by decide +kernel) (Nat.le_of_ble_eq_true rfl) rfl (fun h => by cases h) ?_
  refine xr_iconst dX1_crossed_0 ?_
  refine xr_istore_n' (ll' := [some (xr G 64), some (xi v1), some (xi 0), none]) dX1_crossed_1 (by decide) rfl rfl ?_
  refine xr_iconst dX1_crossed_2 ?_
  refine xr_istore_n' (ll' := [some (xr G 64), some (xi v1), some (xi 0), some (xi 0)]) dX1_crossed_3 (by decide) rfl rfl ?_
  exact h
set_option maxRecDepth 20000 in
theorem B_X1_crossed_4 {G : xG} {l : Launch} {d : Nat} {P : Int → xMem → Prop} {v1 v2 v3 : Int} {μ : xMem} (h : (iR v3 ∧ (16 ≤ v3 → (iR v2 ∧ P v2 μ)) ∧ (v3 < 16 → CI G l d mX2_crossingOf [xr G 46, xi v1, xi v3] μ (fun r5 m6 => ((r5 = (-1) → K_X1_crossed_4 G l (d + 1) P v1 v2 (v3 + 1) m6) ∧ (r5 ≠ (-1) → K_X1_crossed_4 G l (d + 1) P v1 (v2 + 1) (v3 + 1) m6)))))) : K_X1_crossed_4 G l (d + 1) P v1 v2 v3 μ := by
  unfold K_X1_crossed_4
  refine xr_iload_n dX1_crossed_4 rfl ?_
  refine xr_bipush dX1_crossed_5 (by decide) ?_
  obtain ⟨q1, hT2, hF3⟩ := h
  refine xr_icmp_ge (tgt := 32) dX1_crossed_7 (by decide) q1 (by decide) (fun c => ?_) (fun c => ?_)
  · have h := hT2 c
    refine xr_iload_n dX1_crossed_32 rfl ?_
    obtain ⟨q4, h⟩ := h
    exact xr_iret dX1_crossed_33 rfl ⟨rfl, _, rfl, q4, h⟩
  · have h := hF3 (Int.not_le.mp c)
    refine xr_aload_n dX1_crossed_10 rfl ?_
    refine xr_getR dX1_crossed_11 fl_X1_26 L_64 rfl ?_
    refine xr_iload_n dX1_crossed_14 rfl ?_
    refine xr_iload_n dX1_crossed_15 rfl ?_
    refine xr_cvI (As := [xi v1, xi v3]) dX1_crossed_16 mi_X2_crossingOf ml_X1_81 se_X2_crossingOf L_46 rfl rfl rfl (Nat.le_of_ble_eq_true rfl) h (fun r5 m6 hr5 h => ?_)
    refine xr_iconst dX1_crossed_19 ?_
    obtain ⟨hT7, hF8⟩ := h
    refine xr_icmp_eq (tgt := 26) dX1_crossed_20 (by decide) hr5 (by decide) (fun c => ?_) (fun c => ?_)
    · have h := hT7 c
      refine xr_iinc' (ll' := [some (xr G 64), some (xi v1), some (xi v2), some (xi (v3 + 1))]) dX1_crossed_26 rfl (by decide) rfl rfl ?_
      refine xr_goto (tgt := 4) dX1_crossed_29 (by decide) ?_
      exact h
    · have h := hF8 c
      refine xr_iinc' (ll' := [some (xr G 64), some (xi v1), some (xi (v2 + 1)), some (xi v3)]) dX1_crossed_23 rfl (by decide) rfl rfl ?_
      refine xr_iinc' (ll' := [some (xr G 64), some (xi v1), some (xi (v2 + 1)), some (xi (v3 + 1))]) dX1_crossed_26 rfl (by decide) rfl rfl ?_
      refine xr_goto (tgt := 4) dX1_crossed_29 (by decide) ?_
      exact h
def K_X1_clashes_3 (G : xG) (l : Launch) (d : Nat) (P : Int → xMem → Prop) (v1 v2 v3 v4 : Int) (μ : xMem) : Prop := RR G l d 0 0 false mX1_clashes (qI P) 3 [some (xr G 64), some (xi v1), some (xi v2), some (xi v3), some (xi v4), none, none] [] LAY μ 0 0
def K_X1_clashes_42 (G : xG) (l : Launch) (d : Nat) (P : Int → xMem → Prop) (v1 v2 v3 v4 v5 s0 : Int) (μ : xMem) : Prop := RR G l d 0 0 false mX1_clashes (qI P) 42 [some (xr G 64), some (xi v1), some (xi v2), some (xi v3), some (xi v4), some (xi v5), none] [xi s0] LAY μ 0 0
set_option maxRecDepth 20000 in
theorem E_X1_clashes {G : xG} {l : Launch} {d : Nat} {P : Int → xMem → Prop} {v1 v2 v3 : Int} {μ : xMem} (h : K_X1_clashes_3 G l (d + 1) P v1 v2 v3 0 μ) : CI G l (d + 1) mX1_clashes [xr G 64, xi v1, xi v2, xi v3] μ P := by
  refine CC.ofRR (ll := [some (xr G 64), some (xi v1), some (xi v2), some (xi v3), none, none, none]) (by decide +kernel) (Nat.le_of_ble_eq_true rfl) rfl (fun h => by cases h) ?_
  refine xr_iconst dX1_clashes_0 ?_
  refine xr_istore' (ll' := [some (xr G 64), some (xi v1), some (xi v2), some (xi v3), some (xi 0), none, none]) dX1_clashes_1 (by decide) rfl rfl ?_
  exact h
set_option maxRecDepth 20000 in
theorem B_X1_clashes_3 {G : xG} {l : Launch} {d : Nat} {P : Int → xMem → Prop} {v1 v2 v3 v4 : Int} {μ : xMem} (h : (iR v4 ∧ (16 ≤ v4 → P 0 μ) ∧ (v4 < 16 → CI G l d mX2_crossingOf [xr G 46, xi v1, xi v4] μ (fun r4 m5 => ((r4 ≠ (-1) → CI G l d mX2_solutionOf [xr G 46, xi v4, xi v3] m5 (fun r8 m9 => K_X1_clashes_42 G l (d + 1) P v1 v2 v3 v4 r4 r8 m9)) ∧ (r4 = (-1) → K_X1_clashes_42 G l (d + 1) P v1 v2 v3 v4 r4 (-1) m5)))))) : K_X1_clashes_3 G l (d + 1) P v1 v2 v3 v4 μ := by
  unfold K_X1_clashes_3
  refine xr_iload dX1_clashes_3 rfl ?_
  refine xr_bipush dX1_clashes_5 (by decide) ?_
  obtain ⟨q1, hT2, hF3⟩ := h
  refine xr_icmp_ge (tgt := 90) dX1_clashes_7 (by decide) q1 (by decide) (fun c => ?_) (fun c => ?_)
  · have h := hT2 c
    refine xr_iconst dX1_clashes_90 ?_
    exact xr_zret dX1_clashes_91 rfl (x_nz (by decide)).1 ⟨rfl, _, rfl, x_01 (by decide), h⟩
  · have h := hF3 (Int.not_le.mp c)
    refine xr_aload_n dX1_clashes_10 rfl ?_
    refine xr_getR dX1_clashes_11 fl_X1_26 L_64 rfl ?_
    refine xr_iload_n dX1_clashes_14 rfl ?_
    refine xr_iload dX1_clashes_15 rfl ?_
    refine xr_cvI (As := [xi v1, xi v4]) dX1_clashes_17 mi_X2_crossingOf ml_X1_81 se_X2_crossingOf L_46 rfl rfl rfl (Nat.le_of_ble_eq_true rfl) h (fun r4 m5 hr4 h => ?_)
    refine xr_istore' (ll' := [some (xr G 64), some (xi v1), some (xi v2), some (xi v3), some (xi v4), some (xi r4), none]) dX1_clashes_20 (by decide) rfl rfl ?_
    refine xr_iload dX1_clashes_22 rfl ?_
    refine xr_iconst dX1_clashes_24 ?_
    obtain ⟨hT6, hF7⟩ := h
    refine xr_icmp_ne (tgt := 32) dX1_clashes_25 (by decide) hr4 (by decide) (fun c => ?_) (fun c => ?_)
    · have h := hT6 c
      refine xr_aload_n dX1_clashes_32 rfl ?_
      refine xr_getR dX1_clashes_33 fl_X1_26 L_64 rfl ?_
      refine xr_iload dX1_clashes_36 rfl ?_
      refine xr_iload_n dX1_clashes_38 rfl ?_
      refine xr_cvI (As := [xi v4, xi v3]) dX1_clashes_39 mi_X2_solutionOf ml_X1_44 se_X2_solutionOf L_46 rfl rfl rfl (Nat.le_of_ble_eq_true rfl) h (fun r8 m9 hr8 h => ?_)
      exact h
    · have h := hF7 c
      refine xr_iconst dX1_clashes_28 ?_
      refine xr_goto (tgt := 42) dX1_clashes_29 (by decide) ?_
      exact h
set_option maxRecDepth 20000 in
theorem B_X1_clashes_42 {G : xG} {l : Launch} {d : Nat} {P : Int → xMem → Prop} {v1 v2 v3 v4 v5 s0 : Int} {μ : xMem} (h : (iR s0 ∧ (s0 = (-1) → K_X1_clashes_3 G l (d + 1) P v1 v2 v3 (v4 + 1) μ) ∧ (s0 ≠ (-1) → CI G l d mX3_letterAt [xr G 3, xi v2, xi v5] μ (fun r4 m5 => CI G l d mX2_crossingOf [xr G 46, xi v4, xi v1] m5 (fun r6 m7 => CI G l d mX3_letterAt [xr G 3, xi s0, xi r6] m7 (fun r8 m9 => ((r4 = r8 → K_X1_clashes_3 G l (d + 1) P v1 v2 v3 (v4 + 1) m9) ∧ (r4 ≠ r8 → P 1 m9)))))))) : K_X1_clashes_42 G l (d + 1) P v1 v2 v3 v4 v5 s0 μ := by
  unfold K_X1_clashes_42
  refine xr_istore' (ll' := [some (xr G 64), some (xi v1), some (xi v2), some (xi v3), some (xi v4), some (xi v5), some (xi s0)]) dX1_clashes_42 (by decide) rfl rfl ?_
  refine xr_iload dX1_clashes_44 rfl ?_
  refine xr_iconst dX1_clashes_46 ?_
  obtain ⟨q1, hT2, hF3⟩ := h
  refine xr_icmp_eq (tgt := 84) dX1_clashes_47 (by decide) q1 (by decide) (fun c => ?_) (fun c => ?_)
  · have h := hT2 c
    refine xr_iinc' (ll' := [some (xr G 64), some (xi v1), some (xi v2), some (xi v3), some (xi (v4 + 1)), some (xi v5), some (xi s0)]) dX1_clashes_84 rfl (by decide) rfl rfl ?_
    refine xr_goto (tgt := 3) dX1_clashes_87 (by decide) ?_
    refine xr_wk (ll' := [some (xr G 64), some (xi v1), some (xi v2), some (xi v3), some (xi (v4 + 1)), none, none]) ⟨rfl, ⟨rfl, ⟨rfl, ⟨rfl, ⟨rfl, trivial⟩⟩⟩⟩⟩ ?_
    exact h
  · have h := hF3 c
    refine xr_aload_n dX1_clashes_50 rfl ?_
    refine xr_getR dX1_clashes_51 fl_X1_18 L_64 rfl ?_
    refine xr_iload_n dX1_clashes_54 rfl ?_
    refine xr_iload dX1_clashes_55 rfl ?_
    refine xr_cvI (As := [xi v2, xi v5]) dX1_clashes_57 mi_X3_letterAt ml_X1_84 se_X3_letterAt L_3 rfl rfl rfl (Nat.le_of_ble_eq_true rfl) h (fun r4 m5 hr4 h => ?_)
    refine xr_aload_n dX1_clashes_60 rfl ?_
    refine xr_getR dX1_clashes_61 fl_X1_18 L_64 rfl ?_
    refine xr_iload dX1_clashes_64 rfl ?_
    refine xr_aload_n dX1_clashes_66 rfl ?_
    refine xr_getR dX1_clashes_67 fl_X1_26 L_64 rfl ?_
    refine xr_iload dX1_clashes_70 rfl ?_
    refine xr_iload_n dX1_clashes_72 rfl ?_
    refine xr_cvI (As := [xi v4, xi v1]) dX1_clashes_73 mi_X2_crossingOf ml_X1_81 se_X2_crossingOf L_46 rfl rfl rfl (Nat.le_of_ble_eq_true rfl) h (fun r6 m7 hr6 h => ?_)
    refine xr_cvI (As := [xi s0, xi r6]) dX1_clashes_76 mi_X3_letterAt ml_X1_84 se_X3_letterAt L_3 rfl rfl rfl (Nat.le_of_ble_eq_true rfl) h (fun r8 m9 hr8 h => ?_)
    obtain ⟨hT10, hF11⟩ := h
    refine xr_icmp_eq (tgt := 84) dX1_clashes_79 (by decide) hr4 hr8 (fun c => ?_) (fun c => ?_)
    · have h := hT10 c
      refine xr_iinc' (ll' := [some (xr G 64), some (xi v1), some (xi v2), some (xi v3), some (xi (v4 + 1)), some (xi v5), some (xi s0)]) dX1_clashes_84 rfl (by decide) rfl rfl ?_
      refine xr_goto (tgt := 3) dX1_clashes_87 (by decide) ?_
      refine xr_wk (ll' := [some (xr G 64), some (xi v1), some (xi v2), some (xi v3), some (xi (v4 + 1)), none, none]) ⟨rfl, ⟨rfl, ⟨rfl, ⟨rfl, ⟨rfl, trivial⟩⟩⟩⟩⟩ ?_
      exact h
    · have h := hF11 c
      refine xr_iconst dX1_clashes_82 ?_
      exact xr_zret dX1_clashes_83 rfl (x_nz (by decide)).1 ⟨rfl, _, rfl, x_01 (by decide), h⟩
end Blk23_bX1
