/-! blocks of the class's code, printed by program -/
section Blk29_bX7
def K_X7_addGrid_43 (G : xG) (l : Launch) (d : Nat) (P : Int → xMem → Prop) (k1 : Nat) (n1 : Nat) (v2 v3 v4 : Int) (μ : xMem) : Prop := RR G l d 0 0 false mX7_addGrid (qI P) 43 [some (xr G 67), some (xr G k1), some (xi v2), some (xi v3), some (xi v4)] [] LAY μ 0 0
set_option maxRecDepth 20000 in
theorem E_X7_addGrid {G : xG} {l : Launch} {d : Nat} {P : Int → xMem → Prop} {k1 : Nat} {n1 : Nat} (hk1 : LAY[k1]? = some (.inl (0, n1))) (hn1 : n1 < 2147483648) {v2 v3 : Int} {μ : xMem} (h : CI G l d mX4_isFull [xr G 68] μ (fun r1 m2 => ((r1 ≠ 0 → P (-1) m2) ∧ (r1 = 0 → (iR (m2 46 9) ∧ ((m2 46 9) = 0 → P (-1) m2) ∧ ((m2 46 9) ≠ 0 → (iR v2 ∧ iR (m2 46 10) ∧ (v2 ≠ (m2 46 10) → P (-1) m2) ∧ (v2 = (m2 46 10) → ((v2 ≤ 160 → K_X7_addGrid_43 G l (d + 1) P k1 n1 v2 v3 0 m2) ∧ (160 < v2 → P (-1) m2)))))))))) : CI G l (d + 1) mX7_addGrid [xr G 67, xr G k1, xi v2, xi v3] μ P := by
  refine CC.ofRR (ll := [some (xr G 67), some (xr G k1), some (xi v2), some (xi v3), none]) (by decide +kernel) (Nat.le_of_ble_eq_true rfl) rfl (fun h => by cases h) ?_
  refine xr_aload_n dX7_addGrid_0 rfl ?_
  refine xr_getR dX7_addGrid_1 fl_X7_14 L_67 rfl ?_
  refine xr_cvI (As := []) dX7_addGrid_4 mi_X4_isFull ml_X7_42 se_X4_isFull L_68 rfl rfl rfl (Nat.le_of_ble_eq_true rfl) h (fun r1 m2 hr1 h => ?_)
  obtain ⟨hT3, hF4⟩ := h
  refine xr_if_ne (tgt := 38) dX7_addGrid_7 (by decide) hr1  (fun c => ?_) (fun c => ?_)
  · have h := hT3 c
    refine xr_iconst dX7_addGrid_38 ?_
    exact xr_iret dX7_addGrid_39 rfl ⟨rfl, _, rfl, (by decide), h⟩
  · have h := hF4 c
    refine xr_aload_n dX7_addGrid_10 rfl ?_
    refine xr_getR dX7_addGrid_11 fl_X7_38 L_67 rfl ?_
    refine xr_getI' (v := m2 46 9) dX7_addGrid_14 fl_X7_46 L_46 rfl rfl rfl ?_
    obtain ⟨q5, hT6, hF7⟩ := h
    refine xr_if_eq (tgt := 38) dX7_addGrid_17 (by decide) q5  (fun c => ?_) (fun c => ?_)
    · have h := hT6 c
      refine xr_iconst dX7_addGrid_38 ?_
      exact xr_iret dX7_addGrid_39 rfl ⟨rfl, _, rfl, (by decide), h⟩
    · have h := hF7 c
      refine xr_iload_n dX7_addGrid_20 rfl ?_
      refine xr_aload_n dX7_addGrid_21 rfl ?_
      refine xr_getR dX7_addGrid_22 fl_X7_38 L_67 rfl ?_
      refine xr_getI' (v := m2 46 10) dX7_addGrid_25 fl_X7_52 L_46 rfl rfl rfl ?_
      obtain ⟨q8, q9, hT10, hF11⟩ := h
      refine xr_icmp_ne (tgt := 38) dX7_addGrid_28 (by decide) q8 q9 (fun c => ?_) (fun c => ?_)
      · have h := hT10 c
        refine xr_iconst dX7_addGrid_38 ?_
        exact xr_iret dX7_addGrid_39 rfl ⟨rfl, _, rfl, (by decide), h⟩
      · have h := hF11 c
        refine xr_iload_n dX7_addGrid_31 rfl ?_
        refine xr_sipush dX7_addGrid_32 (by decide) ?_
        obtain ⟨hT12, hF13⟩ := h
        refine xr_icmp_le (tgt := 40) dX7_addGrid_35 (by decide) q8 (by decide) (fun c => ?_) (fun c => ?_)
        · have h := hT12 c
          refine xr_iconst dX7_addGrid_40 ?_
          refine xr_istore' (ll' := [some (xr G 67), some (xr G k1), some (xi v2), some (xi v3), some (xi 0)]) dX7_addGrid_41 (by decide) rfl rfl ?_
          exact h
        · have h := hF13 (Int.not_le.mp c)
          refine xr_iconst dX7_addGrid_38 ?_
          exact xr_iret dX7_addGrid_39 rfl ⟨rfl, _, rfl, (by decide), h⟩
set_option maxRecDepth 20000 in
theorem B_X7_addGrid_43 {G : xG} {l : Launch} {d : Nat} {P : Int → xMem → Prop} {k1 : Nat} {n1 : Nat} (hk1 : LAY[k1]? = some (.inl (0, n1))) (hn1 : n1 < 2147483648) {v2 v3 v4 : Int} {μ : xMem} (h : (iR v4 ∧ iR v2 ∧ (v2 ≤ v4 → CI G l d mX4_add [xr G 68, xi 0, xi v3] μ (fun r5 m6 => ((0 ≤ r5 ∧ r5 < 30) ∧ ((0 ≤ r5 * 160) ∧ (0 ≤ v2) ∧ (0 + v2 ≤ (n1 : Int)) ∧ (r5 * 160 + v2 ≤ 4800) ∧ P r5 (cpy (st2 m6 72 r5 v2) k1 0 71 (r5 * 160) v2))))) ∧ (v4 < v2 → ((0 ≤ v4 ∧ v4 < (n1 : Int)) ∧ CI G l d mX11_isSmallLetter [xi (μ k1 v4)] μ (fun r13 m14 => ((r13 ≠ 0 → K_X7_addGrid_43 G l (d + 1) P k1 n1 v2 v3 (v4 + 1) m14) ∧ (r13 = 0 → P (-1) m14))))))) : K_X7_addGrid_43 G l (d + 1) P k1 n1 v2 v3 v4 μ := by
  unfold K_X7_addGrid_43
  refine xr_iload dX7_addGrid_43 rfl ?_
  refine xr_iload_n dX7_addGrid_45 rfl ?_
  obtain ⟨q1, q2, hT3, hF4⟩ := h
  refine xr_icmp_ge (tgt := 67) dX7_addGrid_46 (by decide) q1 q2 (fun c => ?_) (fun c => ?_)
  · have h := hT3 c
    refine xr_aload_n dX7_addGrid_67 rfl ?_
    refine xr_getR dX7_addGrid_68 fl_X7_14 L_67 rfl ?_
    refine xr_iconst dX7_addGrid_71 ?_
    refine xr_iload_n dX7_addGrid_72 rfl ?_
    refine xr_cvI (As := [xi 0, xi v3]) dX7_addGrid_73 mi_X4_add ml_X7_58 se_X4_add L_68 rfl rfl rfl (Nat.le_of_ble_eq_true rfl) h (fun r5 m6 hr5 h => ?_)
    refine xr_istore' (ll' := [some (xr G 67), some (xr G k1), some (xi v2), some (xi v3), some (xi r5)]) dX7_addGrid_76 (by decide) rfl rfl ?_
    refine xr_aload_n dX7_addGrid_78 rfl ?_
    refine xr_getR dX7_addGrid_79 fl_X7_24 L_67 rfl ?_
    refine xr_iload dX7_addGrid_82 rfl ?_
    refine xr_iload_n dX7_addGrid_84 rfl ?_
    obtain ⟨q7, h⟩ := h
    refine xr_iastore dX7_addGrid_85 L_72 rfl (by decide) q7 ?_
    refine xr_aload_n dX7_addGrid_86 rfl ?_
    refine xr_iconst dX7_addGrid_87 ?_
    refine xr_aload_n dX7_addGrid_88 rfl ?_
    refine xr_getR dX7_addGrid_89 fl_X7_20 L_67 rfl ?_
    refine xr_iload dX7_addGrid_92 rfl ?_
    refine xr_sipush dX7_addGrid_94 (by decide) ?_
    refine xr_imul dX7_addGrid_97 ?_
    refine xr_iload_n dX7_addGrid_98 rfl ?_
    obtain ⟨q8, q9, q10, q11, h⟩ := h
    refine xr_copyI dX7_addGrid_99 ml_X7_62 w_acn w_acs w_aci (Nat.le_add_left _ _) (Nat.le_of_ble_eq_true rfl) hk1 L_71 hn1 (by decide) (by decide) q8 q9 q10 q11 ?_ rfl
    refine xr_iload dX7_addGrid_102 rfl ?_
    exact xr_iret dX7_addGrid_104 rfl ⟨rfl, _, rfl, hr5, h⟩
  · have h := hF4 (Int.not_le.mp c)
    refine xr_aload_n dX7_addGrid_49 rfl ?_
    refine xr_iload dX7_addGrid_50 rfl ?_
    obtain ⟨q12, h⟩ := h
    refine xr_iaload' (v := μ k1 v4) dX7_addGrid_52 hk1 rfl hn1 q12 rfl ?_
    refine xr_csNI (As := [xi (μ k1 v4)]) dX7_addGrid_53 ms_X11_isSmallLetter ml_X7_54 rfl rfl (Nat.le_of_ble_eq_true rfl) h (fun r13 m14 hr13 h => ?_)
    obtain ⟨hT15, hF16⟩ := h
    refine xr_if_ne (tgt := 61) dX7_addGrid_56 (by decide) hr13  (fun c => ?_) (fun c => ?_)
    · have h := hT15 c
      refine xr_iinc' (ll' := [some (xr G 67), some (xr G k1), some (xi v2), some (xi v3), some (xi (v4 + 1))]) dX7_addGrid_61 rfl (by decide) rfl rfl ?_
      refine xr_goto (tgt := 43) dX7_addGrid_64 (by decide) ?_
      exact h
    · have h := hF16 c
      refine xr_iconst dX7_addGrid_59 ?_
      exact xr_iret dX7_addGrid_60 rfl ⟨rfl, _, rfl, (by decide), h⟩
def K_X7_isRight_38 (G : xG) (l : Launch) (d : Nat) (P : Int → xMem → Prop) (v2 v3 : Int) (μ : xMem) : Prop := RR G l d 0 0 false mX7_isRight (qI P) 38 [some (xr G 67), none, some (xi v2), some (xi v3)] [] LAY μ 0 0
set_option maxRecDepth 20000 in
theorem E_X7_isRight {G : xG} {l : Launch} {d : Nat} {P : Int → xMem → Prop} {v1 v2 : Int} {μ : xMem} (h : ((0 ≤ v1 ∧ v1 < 30) ∧ (iR (μ 69 v1) ∧ iR v2 ∧ (v2 < (μ 69 v1) → P 0 μ) ∧ ((μ 69 v1) ≤ v2 → (iR (μ 72 v1) ∧ iR (μ 46 10) ∧ ((μ 72 v1) = (μ 46 10) → CV G l d mX7_placeStarts [xr G 67, xi v1] μ (fun m11 => K_X7_isRight_38 G l (d + 1) P v2 0 m11)) ∧ ((μ 72 v1) ≠ (μ 46 10) → P 0 μ)))))) : CI G l (d + 1) mX7_isRight [xr G 67, xi v1, xi v2] μ P := by
  refine CC.ofRR (ll := [some (xr G 67), some (xi v1), some (xi v2), none]) (by decide +kernel) (Nat.le_of_ble_eq_true rfl) rfl (fun h => by cases h) ?_
  refine xr_aload_n dX7_isRight_0 rfl ?_
  refine xr_getR dX7_isRight_1 fl_X7_14 L_67 rfl ?_
  refine xr_getR dX7_isRight_4 fl_X7_68 L_68 rfl ?_
  refine xr_iload_n dX7_isRight_7 rfl ?_
  obtain ⟨q1, h⟩ := h
  refine xr_iaload' (v := μ 69 v1) dX7_isRight_8 L_69 rfl (by decide) q1 rfl ?_
  refine xr_iload_n dX7_isRight_9 rfl ?_
  obtain ⟨q2, q3, hT4, hF5⟩ := h
  refine xr_icmp_gt (tgt := 29) dX7_isRight_10 (by decide) q2 q3 (fun c => ?_) (fun c => ?_)
  · have h := hT4 c
    refine xr_iconst dX7_isRight_29 ?_
    exact xr_zret dX7_isRight_30 rfl (x_nz (by decide)).1 ⟨rfl, _, rfl, x_01 (by decide), h⟩
  · have h := hF5 (Int.not_lt.mp c)
    refine xr_aload_n dX7_isRight_13 rfl ?_
    refine xr_getR dX7_isRight_14 fl_X7_24 L_67 rfl ?_
    refine xr_iload_n dX7_isRight_17 rfl ?_
    refine xr_iaload' (v := μ 72 v1) dX7_isRight_18 L_72 rfl (by decide) q1 rfl ?_
    refine xr_aload_n dX7_isRight_19 rfl ?_
    refine xr_getR dX7_isRight_20 fl_X7_38 L_67 rfl ?_
    refine xr_getI' (v := μ 46 10) dX7_isRight_23 fl_X7_52 L_46 rfl rfl rfl ?_
    obtain ⟨q6, q7, hT8, hF9⟩ := h
    refine xr_icmp_eq (tgt := 31) dX7_isRight_26 (by decide) q6 q7 (fun c => ?_) (fun c => ?_)
    · have h := hT8 c
      refine xr_aload_n dX7_isRight_31 rfl ?_
      refine xr_iload_n dX7_isRight_32 rfl ?_
      refine xr_cvV (As := [xi v1]) dX7_isRight_33 mi_X7_placeStarts ml_X7_71 se_X7_placeStarts L_67 rfl rfl rfl (Nat.le_of_ble_eq_true rfl) h (fun m11 h => ?_)
      refine xr_iconst dX7_isRight_36 ?_
      refine xr_istore_n' (ll' := [some (xr G 67), some (xi v1), some (xi v2), some (xi 0)]) dX7_isRight_37 (by decide) rfl rfl ?_
      refine xr_wk (ll' := [some (xr G 67), none, some (xi v2), some (xi 0)]) ⟨rfl, ⟨rfl, ⟨rfl, trivial⟩⟩⟩ ?_
      exact h
    · have h := hF9 c
      refine xr_iconst dX7_isRight_29 ?_
      exact xr_zret dX7_isRight_30 rfl (x_nz (by decide)).1 ⟨rfl, _, rfl, x_01 (by decide), h⟩
set_option maxRecDepth 20000 in
theorem B_X7_isRight_38 {G : xG} {l : Launch} {d : Nat} {P : Int → xMem → Prop} {v2 v3 : Int} {μ : xMem} (h : (iR v3 ∧ (16 ≤ v3 → P 1 μ) ∧ (v3 < 16 → CI G l d mX2_hasLight [xr G 46, xi v3] μ (fun r4 m5 => ((r4 = 0 → K_X7_isRight_38 G l (d + 1) P v2 (v3 + 1) m5) ∧ (r4 ≠ 0 → CI G l d mX7_isAlikeWhereCrossed [xr G 67, xi v3] m5 (fun r8 m9 => ((r8 = 0 → P 0 m9) ∧ (r8 ≠ 0 → CI G l d mX7_isAnswered [xr G 67, xi v3, xi v2] m9 (fun r12 m13 => ((r12 ≠ 0 → K_X7_isRight_38 G l (d + 1) P v2 (v3 + 1) m13) ∧ (r12 = 0 → P 0 m13)))))))))))) : K_X7_isRight_38 G l (d + 1) P v2 v3 μ := by
  unfold K_X7_isRight_38
  refine xr_iload_n dX7_isRight_38 rfl ?_
  refine xr_bipush dX7_isRight_39 (by decide) ?_
  obtain ⟨q1, hT2, hF3⟩ := h
  refine xr_icmp_ge (tgt := 80) dX7_isRight_41 (by decide) q1 (by decide) (fun c => ?_) (fun c => ?_)
  · have h := hT2 c
    refine xr_iconst dX7_isRight_80 ?_
    exact xr_zret dX7_isRight_81 rfl (x_nz (by decide)).1 ⟨rfl, _, rfl, x_01 (by decide), h⟩
  · have h := hF3 (Int.not_le.mp c)
    refine xr_aload_n dX7_isRight_44 rfl ?_
    refine xr_getR dX7_isRight_45 fl_X7_38 L_67 rfl ?_
    refine xr_iload_n dX7_isRight_48 rfl ?_
    refine xr_cvI (As := [xi v3]) dX7_isRight_49 mi_X2_hasLight ml_X7_74 se_X2_hasLight L_46 rfl rfl rfl (Nat.le_of_ble_eq_true rfl) h (fun r4 m5 hr4 h => ?_)
    obtain ⟨hT6, hF7⟩ := h
    refine xr_if_eq (tgt := 74) dX7_isRight_52 (by decide) hr4  (fun c => ?_) (fun c => ?_)
    · have h := hT6 c
      refine xr_iinc' (ll' := [some (xr G 67), none, some (xi v2), some (xi (v3 + 1))]) dX7_isRight_74 rfl (by decide) rfl rfl ?_
      refine xr_goto (tgt := 38) dX7_isRight_77 (by decide) ?_
      exact h
    · have h := hF7 c
      refine xr_aload_n dX7_isRight_55 rfl ?_
      refine xr_iload_n dX7_isRight_56 rfl ?_
      refine xr_cvI (As := [xi v3]) dX7_isRight_57 mi_X7_isAlikeWhereCrossed ml_X7_77 se_X7_isAlikeWhereCrossed L_67 rfl rfl rfl (Nat.le_of_ble_eq_true rfl) h (fun r8 m9 hr8 h => ?_)
      obtain ⟨hT10, hF11⟩ := h
      refine xr_if_eq (tgt := 72) dX7_isRight_60 (by decide) hr8  (fun c => ?_) (fun c => ?_)
      · have h := hT10 c
        refine xr_iconst dX7_isRight_72 ?_
        exact xr_zret dX7_isRight_73 rfl (x_nz (by decide)).1 ⟨rfl, _, rfl, x_01 (by decide), h⟩
      · have h := hF11 c
        refine xr_aload_n dX7_isRight_63 rfl ?_
        refine xr_iload_n dX7_isRight_64 rfl ?_
        refine xr_iload_n dX7_isRight_65 rfl ?_
        refine xr_cvI (As := [xi v3, xi v2]) dX7_isRight_66 mi_X7_isAnswered ml_X7_80 se_X7_isAnswered L_67 rfl rfl rfl (Nat.le_of_ble_eq_true rfl) h (fun r12 m13 hr12 h => ?_)
        obtain ⟨hT14, hF15⟩ := h
        refine xr_if_ne (tgt := 74) dX7_isRight_69 (by decide) hr12  (fun c => ?_) (fun c => ?_)
        · have h := hT14 c
          refine xr_iinc' (ll' := [some (xr G 67), none, some (xi v2), some (xi (v3 + 1))]) dX7_isRight_74 rfl (by decide) rfl rfl ?_
          refine xr_goto (tgt := 38) dX7_isRight_77 (by decide) ?_
          exact h
        · have h := hF15 c
          refine xr_iconst dX7_isRight_72 ?_
          exact xr_zret dX7_isRight_73 rfl (x_nz (by decide)).1 ⟨rfl, _, rfl, x_01 (by decide), h⟩
def K_X7_placeStarts_8 (G : xG) (l : Launch) (d : Nat) (P : xMem → Prop) (v2 v3 : Int) (μ : xMem) : Prop := RR G l d 0 0 false mX7_placeStarts (qV P) 8 [some (xr G 67), none, some (xi v2), some (xi v3)] [] LAY μ 0 0
set_option maxRecDepth 20000 in
theorem E_X7_placeStarts {G : xG} {l : Launch} {d : Nat} {P : xMem → Prop} {v1 : Int} {μ : xMem} (h : K_X7_placeStarts_8 G l (d + 1) P (v1 * 160) 0 μ) : CV G l (d + 1) mX7_placeStarts [xr G 67, xi v1] μ P := by
  refine CC.ofRR (ll := [some (xr G 67), some (xi v1), none, none]) (by decide +kernel) (Nat.le_of_ble_eq_true rfl) rfl (fun h => by cases h) ?_
  refine xr_iload_n dX7_placeStarts_0 rfl ?_
  refine xr_sipush dX7_placeStarts_1 (by decide) ?_
  refine xr_imul dX7_placeStarts_4 ?_
  refine xr_istore_n' (ll' := [some (xr G 67), some (xi v1), some (xi (v1 * 160)), none]) dX7_placeStarts_5 (by decide) rfl rfl ?_
  refine xr_iconst dX7_placeStarts_6 ?_
  refine xr_istore_n' (ll' := [some (xr G 67), some (xi v1), some (xi (v1 * 160)), some (xi 0)]) dX7_placeStarts_7 (by decide) rfl rfl ?_
  refine xr_wk (ll' := [some (xr G 67), none, some (xi (v1 * 160)), some (xi 0)]) ⟨rfl, ⟨rfl, ⟨rfl, trivial⟩⟩⟩ ?_
  exact h
set_option maxRecDepth 20000 in
theorem B_X7_placeStarts_8 {G : xG} {l : Launch} {d : Nat} {P : xMem → Prop} {v2 v3 : Int} {μ : xMem} (h : (iR v3 ∧ (16 ≤ v3 → P μ) ∧ (v3 < 16 → ((0 ≤ v3 ∧ v3 < 16) ∧ K_X7_placeStarts_8 G l (d + 1) P (v2 + (μ 49 v3)) (v3 + 1) (st2 μ 73 v3 v2))))) : K_X7_placeStarts_8 G l (d + 1) P v2 v3 μ := by
  unfold K_X7_placeStarts_8
  refine xr_iload_n dX7_placeStarts_8 rfl ?_
  refine xr_bipush dX7_placeStarts_9 (by decide) ?_
  obtain ⟨q1, hT2, hF3⟩ := h
  refine xr_icmp_ge (tgt := 39) dX7_placeStarts_11 (by decide) q1 (by decide) (fun c => ?_) (fun c => ?_)
  · have h := hT2 c
    exact xr_ret dX7_placeStarts_39 rfl ⟨rfl, rfl, h⟩
  · have h := hF3 (Int.not_le.mp c)
    refine xr_aload_n dX7_placeStarts_14 rfl ?_
    refine xr_getR dX7_placeStarts_15 fl_X7_27 L_67 rfl ?_
    refine xr_iload_n dX7_placeStarts_18 rfl ?_
    refine xr_iload_n dX7_placeStarts_19 rfl ?_
    obtain ⟨q4, h⟩ := h
    refine xr_iastore dX7_placeStarts_20 L_73 rfl (by decide) q4 ?_
    refine xr_iload_n dX7_placeStarts_21 rfl ?_
    refine xr_aload_n dX7_placeStarts_22 rfl ?_
    refine xr_getR dX7_placeStarts_23 fl_X7_38 L_67 rfl ?_
    refine xr_getR dX7_placeStarts_26 fl_X7_84 L_46 rfl ?_
    refine xr_iload_n dX7_placeStarts_29 rfl ?_
    refine xr_iaload' (v := μ 49 v3) dX7_placeStarts_30 L_49 rfl (by decide) q4 (by simp [st2, cpy]) ?_
    refine xr_iadd dX7_placeStarts_31 ?_
    refine xr_istore_n' (ll' := [some (xr G 67), none, some (xi (v2 + (μ 49 v3))), some (xi v3)]) dX7_placeStarts_32 (by decide) rfl rfl ?_
    refine xr_iinc' (ll' := [some (xr G 67), none, some (xi (v2 + (μ 49 v3))), some (xi (v3 + 1))]) dX7_placeStarts_33 rfl (by decide) rfl rfl ?_
    refine xr_goto (tgt := 8) dX7_placeStarts_36 (by decide) ?_
    exact h
def K_X7_isAlikeWhereCrossed_2 (G : xG) (l : Launch) (d : Nat) (P : Int → xMem → Prop) (v1 v2 : Int) (μ : xMem) : Prop := RR G l d 0 0 false mX7_isAlikeWhereCrossed (qI P) 2 [some (xr G 67), some (xi v1), some (xi v2), none] [] LAY μ 0 0
set_option maxRecDepth 20000 in
theorem E_X7_isAlikeWhereCrossed {G : xG} {l : Launch} {d : Nat} {P : Int → xMem → Prop} {v1 : Int} {μ : xMem} (h : K_X7_isAlikeWhereCrossed_2 G l (d + 1) P v1 0 μ) : CI G l (d + 1) mX7_isAlikeWhereCrossed [xr G 67, xi v1] μ P := by
  refine CC.ofRR (ll := [some (xr G 67), some (xi v1), none, none]) (by decide +kernel) (Nat.le_of_ble_eq_true rfl) rfl (fun h => by cases h) ?_
  refine xr_iconst dX7_isAlikeWhereCrossed_0 ?_
  refine xr_istore_n' (ll' := [some (xr G 67), some (xi v1), some (xi 0), none]) dX7_isAlikeWhereCrossed_1 (by decide) rfl rfl ?_
  exact h
set_option maxRecDepth 20000 in
theorem B_X7_isAlikeWhereCrossed_2 {G : xG} {l : Launch} {d : Nat} {P : Int → xMem → Prop} {v1 v2 : Int} {μ : xMem} (h : (iR v2 ∧ iR v1 ∧ (v1 ≤ v2 → P 1 μ) ∧ (v2 < v1 → CI G l d mX2_crossingOf [xr G 46, xi v1, xi v2] μ (fun r5 m6 => ((r5 = (-1) → K_X7_isAlikeWhereCrossed_2 G l (d + 1) P v1 (v2 + 1) m6) ∧ (r5 ≠ (-1) → ((0 ≤ v1 ∧ v1 < 16) ∧ ((0 ≤ (m6 73 v1) + r5 ∧ (m6 73 v1) + r5 < 4800) ∧ ((0 ≤ v2 ∧ v2 < 16) ∧ CI G l d mX2_crossingOf [xr G 46, xi v2, xi v1] m6 (fun r12 m13 => ((0 ≤ (m6 73 v2) + r12 ∧ (m6 73 v2) + r12 < 4800) ∧ (iR (m6 71 ((m6 73 v1) + r5)) ∧ iR (m13 71 ((m6 73 v2) + r12)) ∧ ((m6 71 ((m6 73 v1) + r5)) = (m13 71 ((m6 73 v2) + r12)) → K_X7_isAlikeWhereCrossed_2 G l (d + 1) P v1 (v2 + 1) m13) ∧ ((m6 71 ((m6 73 v1) + r5)) ≠ (m13 71 ((m6 73 v2) + r12)) → P 0 m13))))))))))))) : K_X7_isAlikeWhereCrossed_2 G l (d + 1) P v1 v2 μ := by
  unfold K_X7_isAlikeWhereCrossed_2
  refine xr_iload_n dX7_isAlikeWhereCrossed_2 rfl ?_
  refine xr_iload_n dX7_isAlikeWhereCrossed_3 rfl ?_
  obtain ⟨q1, q2, hT3, hF4⟩ := h
  refine xr_icmp_ge (tgt := 67) dX7_isAlikeWhereCrossed_4 (by decide) q1 q2 (fun c => ?_) (fun c => ?_)
  · have h := hT3 c
    refine xr_iconst dX7_isAlikeWhereCrossed_67 ?_
    exact xr_zret dX7_isAlikeWhereCrossed_68 rfl (x_nz (by decide)).1 ⟨rfl, _, rfl, x_01 (by decide), h⟩
  · have h := hF4 (Int.not_le.mp c)
    refine xr_aload_n dX7_isAlikeWhereCrossed_7 rfl ?_
    refine xr_getR dX7_isAlikeWhereCrossed_8 fl_X7_38 L_67 rfl ?_
    refine xr_iload_n dX7_isAlikeWhereCrossed_11 rfl ?_
    refine xr_iload_n dX7_isAlikeWhereCrossed_12 rfl ?_
    refine xr_cvI (As := [xi v1, xi v2]) dX7_isAlikeWhereCrossed_13 mi_X2_crossingOf ml_X7_87 se_X2_crossingOf L_46 rfl rfl rfl (Nat.le_of_ble_eq_true rfl) h (fun r5 m6 hr5 h => ?_)
    refine xr_istore_n' (ll' := [some (xr G 67), some (xi v1), some (xi v2), some (xi r5)]) dX7_isAlikeWhereCrossed_16 (by decide) rfl rfl ?_
    refine xr_iload_n dX7_isAlikeWhereCrossed_17 rfl ?_
    refine xr_iconst dX7_isAlikeWhereCrossed_18 ?_
    obtain ⟨hT7, hF8⟩ := h
    refine xr_icmp_eq (tgt := 61) dX7_isAlikeWhereCrossed_19 (by decide) hr5 (by decide) (fun c => ?_) (fun c => ?_)
    · have h := hT7 c
      refine xr_iinc' (ll' := [some (xr G 67), some (xi v1), some (xi (v2 + 1)), some (xi r5)]) dX7_isAlikeWhereCrossed_61 rfl (by decide) rfl rfl ?_
      refine xr_goto (tgt := 2) dX7_isAlikeWhereCrossed_64 (by decide) ?_
      refine xr_wk (ll' := [some (xr G 67), some (xi v1), some (xi (v2 + 1)), none]) ⟨rfl, ⟨rfl, ⟨rfl, trivial⟩⟩⟩ ?_
      exact h
    · have h := hF8 c
      refine xr_aload_n dX7_isAlikeWhereCrossed_22 rfl ?_
      refine xr_getR dX7_isAlikeWhereCrossed_23 fl_X7_20 L_67 rfl ?_
      refine xr_aload_n dX7_isAlikeWhereCrossed_26 rfl ?_
      refine xr_getR dX7_isAlikeWhereCrossed_27 fl_X7_27 L_67 rfl ?_
      refine xr_iload_n dX7_isAlikeWhereCrossed_30 rfl ?_
      obtain ⟨q9, h⟩ := h
      refine xr_iaload' (v := m6 73 v1) dX7_isAlikeWhereCrossed_31 L_73 rfl (by decide) q9 rfl ?_
      refine xr_iload_n dX7_isAlikeWhereCrossed_32 rfl ?_
      refine xr_iadd dX7_isAlikeWhereCrossed_33 ?_
      obtain ⟨q10, h⟩ := h
      refine xr_iaload' (v := m6 71 ((m6 73 v1) + r5)) dX7_isAlikeWhereCrossed_34 L_71 rfl (by decide) q10 rfl ?_
      refine xr_aload_n dX7_isAlikeWhereCrossed_35 rfl ?_
      refine xr_getR dX7_isAlikeWhereCrossed_36 fl_X7_20 L_67 rfl ?_
      refine xr_aload_n dX7_isAlikeWhereCrossed_39 rfl ?_
      refine xr_getR dX7_isAlikeWhereCrossed_40 fl_X7_27 L_67 rfl ?_
      refine xr_iload_n dX7_isAlikeWhereCrossed_43 rfl ?_
      obtain ⟨q11, h⟩ := h
      refine xr_iaload' (v := m6 73 v2) dX7_isAlikeWhereCrossed_44 L_73 rfl (by decide) q11 rfl ?_
      refine xr_aload_n dX7_isAlikeWhereCrossed_45 rfl ?_
      refine xr_getR dX7_isAlikeWhereCrossed_46 fl_X7_38 L_67 rfl ?_
      refine xr_iload_n dX7_isAlikeWhereCrossed_49 rfl ?_
      refine xr_iload_n dX7_isAlikeWhereCrossed_50 rfl ?_
      refine xr_cvI (As := [xi v2, xi v1]) dX7_isAlikeWhereCrossed_51 mi_X2_crossingOf ml_X7_87 se_X2_crossingOf L_46 rfl rfl rfl (Nat.le_of_ble_eq_true rfl) h (fun r12 m13 hr12 h => ?_)
      refine xr_iadd dX7_isAlikeWhereCrossed_54 ?_
      obtain ⟨q14, h⟩ := h
      refine xr_iaload' (v := m13 71 ((m6 73 v2) + r12)) dX7_isAlikeWhereCrossed_55 L_71 rfl (by decide) q14 rfl ?_
      obtain ⟨q15, q16, hT17, hF18⟩ := h
      refine xr_icmp_eq (tgt := 61) dX7_isAlikeWhereCrossed_56 (by decide) q15 q16 (fun c => ?_) (fun c => ?_)
      · have h := hT17 c
        refine xr_iinc' (ll' := [some (xr G 67), some (xi v1), some (xi (v2 + 1)), some (xi r5)]) dX7_isAlikeWhereCrossed_61 rfl (by decide) rfl rfl ?_
        refine xr_goto (tgt := 2) dX7_isAlikeWhereCrossed_64 (by decide) ?_
        refine xr_wk (ll' := [some (xr G 67), some (xi v1), some (xi (v2 + 1)), none]) ⟨rfl, ⟨rfl, ⟨rfl, trivial⟩⟩⟩ ?_
        exact h
      · have h := hF18 c
        refine xr_iconst dX7_isAlikeWhereCrossed_59 ?_
        exact xr_zret dX7_isAlikeWhereCrossed_60 rfl (x_nz (by decide)).1 ⟨rfl, _, rfl, x_01 (by decide), h⟩
set_option maxRecDepth 20000 in
theorem E_X7_isAnswered {G : xG} {l : Launch} {d : Nat} {P : Int → xMem → Prop} {v1 v2 : Int} {μ : xMem} (h : ((0 ≤ v1 ∧ v1 < 16) ∧ CI G l d mX3_find [xr G 3, xr G 71, xi (μ 73 v1), xi (μ 49 v1)] μ (fun r2 m3 => ((r2 = (-1) → P 0 m3) ∧ (r2 ≠ (-1) → CI G l d mX2_solutionOf [xr G 46, xi v1, xi v2] m3 (fun r6 m7 => ((r2 = r6 → P 1 m7) ∧ (r2 ≠ r6 → CI G l d mX6_has [xr G 40, xi v1, xi r2] m7 (fun r10 m11 => ((r10 = 0 → P 0 m11) ∧ (r10 ≠ 0 → P 1 m11))))))))))) : CI G l (d + 1) mX7_isAnswered [xr G 67, xi v1, xi v2] μ P := by
  refine CC.ofRR (ll := [some (xr G 67), some (xi v1), some (xi v2), none]) (by decide +kernel) (Nat.le_of_ble_eq_true rfl) rfl (fun h => by cases h) ?_
  refine xr_aload_n dX7_isAnswered_0 rfl ?_
  refine xr_getR dX7_isAnswered_1 fl_X7_30 L_67 rfl ?_
  refine xr_aload_n dX7_isAnswered_4 rfl ?_
  refine xr_getR dX7_isAnswered_5 fl_X7_20 L_67 rfl ?_
  refine xr_aload_n dX7_isAnswered_8 rfl ?_
  refine xr_getR dX7_isAnswered_9 fl_X7_27 L_67 rfl ?_
  refine xr_iload_n dX7_isAnswered_12 rfl ?_
  obtain ⟨q1, h⟩ := h
  refine xr_iaload' (v := μ 73 v1) dX7_isAnswered_13 L_73 rfl (by decide) q1 rfl ?_
  refine xr_aload_n dX7_isAnswered_14 rfl ?_
  refine xr_getR dX7_isAnswered_15 fl_X7_38 L_67 rfl ?_
  refine xr_getR dX7_isAnswered_18 fl_X7_84 L_46 rfl ?_
  refine xr_iload_n dX7_isAnswered_21 rfl ?_
  refine xr_iaload' (v := μ 49 v1) dX7_isAnswered_22 L_49 rfl (by decide) q1 rfl ?_
  refine xr_cvI (As := [xr G 71, xi (μ 73 v1), xi (μ 49 v1)]) dX7_isAnswered_23 mi_X3_find ml_X7_90 se_X3_find L_3 rfl rfl rfl (Nat.le_of_ble_eq_true rfl) h (fun r2 m3 hr2 h => ?_)
  refine xr_istore_n' (ll' := [some (xr G 67), some (xi v1), some (xi v2), some (xi r2)]) dX7_isAnswered_26 (by decide) rfl rfl ?_
  refine xr_iload_n dX7_isAnswered_27 rfl ?_
  refine xr_iconst dX7_isAnswered_28 ?_
  obtain ⟨hT4, hF5⟩ := h
  refine xr_icmp_eq (tgt := 61) dX7_isAnswered_29 (by decide) hr2 (by decide) (fun c => ?_) (fun c => ?_)
  · have h := hT4 c
    refine xr_iconst dX7_isAnswered_61 ?_
    exact xr_zret dX7_isAnswered_62 rfl (x_nz (by decide)).1 ⟨rfl, _, rfl, x_01 (by decide), h⟩
  · have h := hF5 c
    refine xr_iload_n dX7_isAnswered_32 rfl ?_
    refine xr_aload_n dX7_isAnswered_33 rfl ?_
    refine xr_getR dX7_isAnswered_34 fl_X7_38 L_67 rfl ?_
    refine xr_iload_n dX7_isAnswered_37 rfl ?_
    refine xr_iload_n dX7_isAnswered_38 rfl ?_
    refine xr_cvI (As := [xi v1, xi v2]) dX7_isAnswered_39 mi_X2_solutionOf ml_X7_96 se_X2_solutionOf L_46 rfl rfl rfl (Nat.le_of_ble_eq_true rfl) h (fun r6 m7 hr6 h => ?_)
    obtain ⟨hT8, hF9⟩ := h
    refine xr_icmp_eq (tgt := 57) dX7_isAnswered_42 (by decide) hr2 hr6 (fun c => ?_) (fun c => ?_)
    · have h := hT8 c
      refine xr_iconst dX7_isAnswered_57 ?_
      refine xr_goto (tgt := 62) dX7_isAnswered_58 (by decide) ?_
      exact xr_zret dX7_isAnswered_62 rfl (x_nz (by decide)).1 ⟨rfl, _, rfl, x_01 (by decide), h⟩
    · have h := hF9 c
      refine xr_aload_n dX7_isAnswered_45 rfl ?_
      refine xr_getR dX7_isAnswered_46 fl_X7_34 L_67 rfl ?_
      refine xr_iload_n dX7_isAnswered_49 rfl ?_
      refine xr_iload_n dX7_isAnswered_50 rfl ?_
      refine xr_cvI (As := [xi v1, xi r2]) dX7_isAnswered_51 mi_X6_has ml_X7_99 se_X6_has L_40 rfl rfl rfl (Nat.le_of_ble_eq_true rfl) h (fun r10 m11 hr10 h => ?_)
      obtain ⟨hT12, hF13⟩ := h
      refine xr_if_eq (tgt := 61) dX7_isAnswered_54 (by decide) hr10  (fun c => ?_) (fun c => ?_)
      · have h := hT12 c
        refine xr_iconst dX7_isAnswered_61 ?_
        exact xr_zret dX7_isAnswered_62 rfl (x_nz (by decide)).1 ⟨rfl, _, rfl, x_01 (by decide), h⟩
      · have h := hF13 c
        refine xr_iconst dX7_isAnswered_57 ?_
        refine xr_goto (tgt := 62) dX7_isAnswered_58 (by decide) ?_
        exact xr_zret dX7_isAnswered_62 rfl (x_nz (by decide)).1 ⟨rfl, _, rfl, x_01 (by decide), h⟩
end Blk29_bX7
