/-! blocks of the class's code, printed by program -/
section Blk21_bX3
set_option maxRecDepth 20000 in
theorem E_X3_hasWord {G : xG} {l : Launch} {d : Nat} {P : Int → xMem → Prop} {v1 : Int} {μ : xMem} (h : (iR v1 ∧ (v1 < 0 → P 0 μ) ∧ (0 ≤ v1 → (iR (μ 4 2) ∧ ((μ 4 2) ≤ v1 → P 0 μ) ∧ (v1 < (μ 4 2) → P 1 μ))))) : CI G l (d + 1) mX3_hasWord [xr G 3, xi v1] μ P := by
  refine CC.ofRR (ll := [some (xr G 3), some (xi v1)]) (by decide +kernel) (Nat.le_of_ble_eq_true rfl) rfl (fun h => by cases h) ?_
  refine xr_iload_n dX3_hasWord_0 rfl ?_
  obtain ⟨q1, hT2, hF3⟩ := h
  refine xr_if_lt (tgt := 19) dX3_hasWord_1 (by decide) q1  (fun c => ?_) (fun c => ?_)
  · have h := hT2 c
    refine xr_iconst dX3_hasWord_19 ?_
    exact xr_zret dX3_hasWord_20 rfl (x_nz (by decide)).1 ⟨rfl, _, rfl, x_01 (by decide), h⟩
  · have h := hF3 (Int.not_lt.mp c)
    refine xr_iload_n dX3_hasWord_4 rfl ?_
    refine xr_aload_n dX3_hasWord_5 rfl ?_
    refine xr_getR dX3_hasWord_6 fl_X3_14 L_3 rfl ?_
    refine xr_getI' (v := μ 4 2) dX3_hasWord_9 fl_X3_51 L_4 rfl rfl rfl ?_
    obtain ⟨q4, hT5, hF6⟩ := h
    refine xr_icmp_ge (tgt := 19) dX3_hasWord_12 (by decide) q1 q4 (fun c => ?_) (fun c => ?_)
    · have h := hT5 c
      refine xr_iconst dX3_hasWord_19 ?_
      exact xr_zret dX3_hasWord_20 rfl (x_nz (by decide)).1 ⟨rfl, _, rfl, x_01 (by decide), h⟩
    · have h := hF6 (Int.not_le.mp c)
      refine xr_iconst dX3_hasWord_15 ?_
      refine xr_goto (tgt := 20) dX3_hasWord_16 (by decide) ?_
      exact xr_zret dX3_hasWord_20 rfl (x_nz (by decide)).1 ⟨rfl, _, rfl, x_01 (by decide), h⟩
set_option maxRecDepth 20000 in
theorem E_X3_isKnown {G : xG} {l : Launch} {d : Nat} {P : Int → xMem → Prop} {v1 v2 : Int} {μ : xMem} (h : CI G l d mX3_hasWord [xr G 3, xi v1] μ (fun r1 m2 => ((r1 = 0 → P 0 m2) ∧ (r1 ≠ 0 → ((0 ≤ v1 ∧ v1 < 120) ∧ (iR (m2 5 v1) ∧ iR v2 ∧ (v2 < (m2 5 v1) → P 0 m2) ∧ ((m2 5 v1) ≤ v2 → P 1 m2))))))) : CI G l (d + 1) mX3_isKnown [xr G 3, xi v1, xi v2] μ P := by
  refine CC.ofRR (ll := [some (xr G 3), some (xi v1), some (xi v2)]) (by decide +kernel) (Nat.le_of_ble_eq_true rfl) rfl (fun h => by cases h) ?_
  refine xr_aload_n dX3_isKnown_0 rfl ?_
  refine xr_iload_n dX3_isKnown_1 rfl ?_
  refine xr_cvI (As := [xi v1]) dX3_isKnown_2 mi_X3_hasWord ml_X3_55 se_X3_hasWord L_3 rfl rfl rfl (Nat.le_of_ble_eq_true rfl) h (fun r1 m2 hr1 h => ?_)
  obtain ⟨hT3, hF4⟩ := h
  refine xr_if_eq (tgt := 25) dX3_isKnown_5 (by decide) hr1  (fun c => ?_) (fun c => ?_)
  · have h := hT3 c
    refine xr_iconst dX3_isKnown_25 ?_
    exact xr_zret dX3_isKnown_26 rfl (x_nz (by decide)).1 ⟨rfl, _, rfl, x_01 (by decide), h⟩
  · have h := hF4 c
    refine xr_aload_n dX3_isKnown_8 rfl ?_
    refine xr_getR dX3_isKnown_9 fl_X3_14 L_3 rfl ?_
    refine xr_getR dX3_isKnown_12 fl_X3_59 L_4 rfl ?_
    refine xr_iload_n dX3_isKnown_15 rfl ?_
    obtain ⟨q5, h⟩ := h
    refine xr_iaload' (v := m2 5 v1) dX3_isKnown_16 L_5 rfl (by decide) q5 rfl ?_
    refine xr_iload_n dX3_isKnown_17 rfl ?_
    obtain ⟨q6, q7, hT8, hF9⟩ := h
    refine xr_icmp_gt (tgt := 25) dX3_isKnown_18 (by decide) q6 q7 (fun c => ?_) (fun c => ?_)
    · have h := hT8 c
      refine xr_iconst dX3_isKnown_25 ?_
      exact xr_zret dX3_isKnown_26 rfl (x_nz (by decide)).1 ⟨rfl, _, rfl, x_01 (by decide), h⟩
    · have h := hF9 (Int.not_lt.mp c)
      refine xr_iconst dX3_isKnown_21 ?_
      refine xr_goto (tgt := 26) dX3_isKnown_22 (by decide) ?_
      exact xr_zret dX3_isKnown_26 rfl (x_nz (by decide)).1 ⟨rfl, _, rfl, x_01 (by decide), h⟩
set_option maxRecDepth 20000 in
theorem E_X3_letterAt {G : xG} {l : Launch} {d : Nat} {P : Int → xMem → Prop} {v1 v2 : Int} {μ : xMem} (h : ((0 ≤ (v1 * 10) + v2 ∧ (v1 * 10) + v2 < 1200) ∧ (iR (μ 13 ((v1 * 10) + v2)) ∧ P (μ 13 ((v1 * 10) + v2)) μ))) : CI G l (d + 1) mX3_letterAt [xr G 3, xi v1, xi v2] μ P := by
  refine CC.ofRR (ll := [some (xr G 3), some (xi v1), some (xi v2)]) (by decide +kernel) (Nat.le_of_ble_eq_true rfl) rfl (fun h => by cases h) ?_
  refine xr_aload_n dX3_letterAt_0 rfl ?_
  refine xr_getR dX3_letterAt_1 fl_X3_26 L_3 rfl ?_
  refine xr_iload_n dX3_letterAt_4 rfl ?_
  refine xr_bipush dX3_letterAt_5 (by decide) ?_
  refine xr_imul dX3_letterAt_7 ?_
  refine xr_iload_n dX3_letterAt_8 rfl ?_
  refine xr_iadd dX3_letterAt_9 ?_
  obtain ⟨q1, h⟩ := h
  refine xr_iaload' (v := μ 13 ((v1 * 10) + v2)) dX3_letterAt_10 L_13 rfl (by decide) q1 rfl ?_
  obtain ⟨q2, h⟩ := h
  exact xr_iret dX3_letterAt_11 rfl ⟨rfl, _, rfl, q2, h⟩
def K_X3_addWord_26 (G : xG) (l : Launch) (d : Nat) (P : Int → xMem → Prop) (k1 : Nat) (n1 : Nat) (v2 v3 v4 : Int) (μ : xMem) : Prop := RR G l d 0 0 false mX3_addWord (qI P) 26 [some (xr G 3), some (xr G k1), some (xi v2), some (xi v3), some (xi v4)] [] LAY μ 0 0
set_option maxRecDepth 20000 in
theorem E_X3_addWord {G : xG} {l : Launch} {d : Nat} {P : Int → xMem → Prop} {k1 : Nat} {n1 : Nat} (hk1 : LAY[k1]? = some (.inl (0, n1))) (hn1 : n1 < 2147483648) {v2 v3 : Int} {μ : xMem} (h : (iR v2 ∧ (v2 < 1 → P (-1) μ) ∧ (1 ≤ v2 → ((10 < v2 → P (-1) μ) ∧ (v2 ≤ 10 → CI G l d mX4_isFull [xr G 4] μ (fun r6 m7 => ((r6 = 0 → K_X3_addWord_26 G l (d + 1) P k1 n1 v2 v3 0 m7) ∧ (r6 ≠ 0 → P (-1) m7)))))))) : CI G l (d + 1) mX3_addWord [xr G 3, xr G k1, xi v2, xi v3] μ P := by
  refine CC.ofRR (ll := [some (xr G 3), some (xr G k1), some (xi v2), some (xi v3), none]) (by decide +kernel) (Nat.le_of_ble_eq_true rfl) rfl (fun h => by cases h) ?_
  refine xr_iload_n dX3_addWord_0 rfl ?_
  refine xr_iconst dX3_addWord_1 ?_
  obtain ⟨q1, hT2, hF3⟩ := h
  refine xr_icmp_lt (tgt := 21) dX3_addWord_2 (by decide) q1 (by decide) (fun c => ?_) (fun c => ?_)
  · have h := hT2 c
    refine xr_iconst dX3_addWord_21 ?_
    exact xr_iret dX3_addWord_22 rfl ⟨rfl, _, rfl, (by decide), h⟩
  · have h := hF3 (Int.not_lt.mp c)
    refine xr_iload_n dX3_addWord_5 rfl ?_
    refine xr_bipush dX3_addWord_6 (by decide) ?_
    obtain ⟨hT4, hF5⟩ := h
    refine xr_icmp_gt (tgt := 21) dX3_addWord_8 (by decide) q1 (by decide) (fun c => ?_) (fun c => ?_)
    · have h := hT4 c
      refine xr_iconst dX3_addWord_21 ?_
      exact xr_iret dX3_addWord_22 rfl ⟨rfl, _, rfl, (by decide), h⟩
    · have h := hF5 (Int.not_lt.mp c)
      refine xr_aload_n dX3_addWord_11 rfl ?_
      refine xr_getR dX3_addWord_12 fl_X3_14 L_3 rfl ?_
      refine xr_cvI (As := []) dX3_addWord_15 mi_X4_isFull ml_X3_62 se_X4_isFull L_4 rfl rfl rfl (Nat.le_of_ble_eq_true rfl) h (fun r6 m7 hr6 h => ?_)
      obtain ⟨hT8, hF9⟩ := h
      refine xr_if_eq (tgt := 23) dX3_addWord_18 (by decide) hr6  (fun c => ?_) (fun c => ?_)
      · have h := hT8 c
        refine xr_iconst dX3_addWord_23 ?_
        refine xr_istore' (ll' := [some (xr G 3), some (xr G k1), some (xi v2), some (xi v3), some (xi 0)]) dX3_addWord_24 (by decide) rfl rfl ?_
        exact h
      · have h := hF9 c
        refine xr_iconst dX3_addWord_21 ?_
        exact xr_iret dX3_addWord_22 rfl ⟨rfl, _, rfl, (by decide), h⟩
set_option maxRecDepth 20000 in
theorem B_X3_addWord_26 {G : xG} {l : Launch} {d : Nat} {P : Int → xMem → Prop} {k1 : Nat} {n1 : Nat} (hk1 : LAY[k1]? = some (.inl (0, n1))) (hn1 : n1 < 2147483648) {v2 v3 v4 : Int} {μ : xMem} (h : (iR v4 ∧ iR v2 ∧ (v2 ≤ v4 → CI G l d mX3_find [xr G 3, xr G k1, xi 0, xi v2] μ (fun r5 m6 => ((r5 = (-1) → CI G l d mX4_add [xr G 4, xi 0, xi v3] m6 (fun r9 m10 => ((0 ≤ r9 ∧ r9 < 120) ∧ ((0 ≤ r9 * 10) ∧ (0 ≤ v2) ∧ (0 + v2 ≤ (n1 : Int)) ∧ (r9 * 10 + v2 ≤ 1200) ∧ P r9 (cpy (st2 m10 14 r9 v2) k1 0 13 (r9 * 10) v2))))) ∧ (r5 ≠ (-1) → P (-1) m6)))) ∧ (v4 < v2 → ((0 ≤ v4 ∧ v4 < (n1 : Int)) ∧ CI G l d mX11_isSmallLetter [xi (μ k1 v4)] μ (fun r17 m18 => ((r17 ≠ 0 → K_X3_addWord_26 G l (d + 1) P k1 n1 v2 v3 (v4 + 1) m18) ∧ (r17 = 0 → P (-1) m18))))))) : K_X3_addWord_26 G l (d + 1) P k1 n1 v2 v3 v4 μ := by
  unfold K_X3_addWord_26
  refine xr_iload dX3_addWord_26 rfl ?_
  refine xr_iload_n dX3_addWord_28 rfl ?_
  obtain ⟨q1, q2, hT3, hF4⟩ := h
  refine xr_icmp_ge (tgt := 50) dX3_addWord_29 (by decide) q1 q2 (fun c => ?_) (fun c => ?_)
  · have h := hT3 c
    refine xr_aload_n dX3_addWord_50 rfl ?_
    refine xr_aload_n dX3_addWord_51 rfl ?_
    refine xr_iconst dX3_addWord_52 ?_
    refine xr_iload_n dX3_addWord_53 rfl ?_
    refine xr_cvI (As := [xr G k1, xi 0, xi v2]) dX3_addWord_54 mi_X3_find ml_X3_69 se_X3_find L_3 rfl rfl rfl (Nat.le_of_ble_eq_true rfl) h (fun r5 m6 hr5 h => ?_)
    refine xr_iconst dX3_addWord_57 ?_
    obtain ⟨hT7, hF8⟩ := h
    refine xr_icmp_eq (tgt := 63) dX3_addWord_58 (by decide) hr5 (by decide) (fun c => ?_) (fun c => ?_)
    · have h := hT7 c
      refine xr_aload_n dX3_addWord_63 rfl ?_
      refine xr_getR dX3_addWord_64 fl_X3_14 L_3 rfl ?_
      refine xr_iconst dX3_addWord_67 ?_
      refine xr_iload_n dX3_addWord_68 rfl ?_
      refine xr_cvI (As := [xi 0, xi v3]) dX3_addWord_69 mi_X4_add ml_X3_73 se_X4_add L_4 rfl rfl rfl (Nat.le_of_ble_eq_true rfl) h (fun r9 m10 hr9 h => ?_)
      refine xr_istore' (ll' := [some (xr G 3), some (xr G k1), some (xi v2), some (xi v3), some (xi r9)]) dX3_addWord_72 (by decide) rfl rfl ?_
      refine xr_aload_n dX3_addWord_74 rfl ?_
      refine xr_getR dX3_addWord_75 fl_X3_30 L_3 rfl ?_
      refine xr_iload dX3_addWord_78 rfl ?_
      refine xr_iload_n dX3_addWord_80 rfl ?_
      obtain ⟨q11, h⟩ := h
      refine xr_iastore dX3_addWord_81 L_14 rfl (by decide) q11 ?_
      refine xr_aload_n dX3_addWord_82 rfl ?_
      refine xr_iconst dX3_addWord_83 ?_
      refine xr_aload_n dX3_addWord_84 rfl ?_
      refine xr_getR dX3_addWord_85 fl_X3_26 L_3 rfl ?_
      refine xr_iload dX3_addWord_88 rfl ?_
      refine xr_bipush dX3_addWord_90 (by decide) ?_
      refine xr_imul dX3_addWord_92 ?_
      refine xr_iload_n dX3_addWord_93 rfl ?_
      obtain ⟨q12, q13, q14, q15, h⟩ := h
      refine xr_copyI dX3_addWord_94 ml_X3_77 w_acn w_acs w_aci (Nat.le_add_left _ _) (Nat.le_of_ble_eq_true rfl) hk1 L_13 hn1 (by decide) (by decide) q12 q13 q14 q15 ?_ rfl
      refine xr_iload dX3_addWord_97 rfl ?_
      exact xr_iret dX3_addWord_99 rfl ⟨rfl, _, rfl, hr9, h⟩
    · have h := hF8 c
      refine xr_iconst dX3_addWord_61 ?_
      exact xr_iret dX3_addWord_62 rfl ⟨rfl, _, rfl, (by decide), h⟩
  · have h := hF4 (Int.not_le.mp c)
    refine xr_aload_n dX3_addWord_32 rfl ?_
    refine xr_iload dX3_addWord_33 rfl ?_
    obtain ⟨q16, h⟩ := h
    refine xr_iaload' (v := μ k1 v4) dX3_addWord_35 hk1 rfl hn1 q16 rfl ?_
    refine xr_csNI (As := [xi (μ k1 v4)]) dX3_addWord_36 ms_X11_isSmallLetter ml_X3_66 rfl rfl (Nat.le_of_ble_eq_true rfl) h (fun r17 m18 hr17 h => ?_)
    obtain ⟨hT19, hF20⟩ := h
    refine xr_if_ne (tgt := 44) dX3_addWord_39 (by decide) hr17  (fun c => ?_) (fun c => ?_)
    · have h := hT19 c
      refine xr_iinc' (ll' := [some (xr G 3), some (xr G k1), some (xi v2), some (xi v3), some (xi (v4 + 1))]) dX3_addWord_44 rfl (by decide) rfl rfl ?_
      refine xr_goto (tgt := 26) dX3_addWord_47 (by decide) ?_
      exact h
    · have h := hF20 c
      refine xr_iconst dX3_addWord_42 ?_
      exact xr_iret dX3_addWord_43 rfl ⟨rfl, _, rfl, (by decide), h⟩
set_option maxRecDepth 20000 in
theorem E_X3_addMeaning {G : xG} {l : Launch} {d : Nat} {P : Int → xMem → Prop} {v1 v2 v3 : Int} {μ : xMem} (h : CI G l d mX3_hasWord [xr G 3, xi v1] μ (fun r1 m2 => ((r1 = 0 → P 0 m2) ∧ (r1 ≠ 0 → CI G l d mX3_hasWord [xr G 3, xi v2] m2 (fun r5 m6 => ((r5 = 0 → P 0 m6) ∧ (r5 ≠ 0 → (iR v1 ∧ iR v2 ∧ (v1 = v2 → P 0 m6) ∧ (v1 ≠ v2 → CI G l d mX4_isFull [xr G 7] m6 (fun r13 m14 => ((r13 = 0 → CI G l d mX3_isMeant [xr G 3, xi v1, xi v2, xi (m14 7 2)] m14 (fun r17 m18 => ((r17 = 0 → CI G l d mX4_add [xr G 7, xi v1, xi v3] m18 (fun r21 m22 => ((0 ≤ v2 ∧ v2 < 120) ∧ CI G l d mX3_chainOf [xr G 3, xi v1, xi (m22 14 v2)] m22 (fun r24 m25 => ((0 ≤ r21 ∧ r21 < 240) ∧ ((0 ≤ r24 ∧ r24 < 1320) ∧ P 1 (st2 (st2 (st2 m25 17 r21 v2) 16 r21 (m25 15 r24)) 15 r24 r21))))))) ∧ (r17 ≠ 0 → P 0 m18)))) ∧ (r13 ≠ 0 → P 0 m14)))))))))))) : CI G l (d + 1) mX3_addMeaning [xr G 3, xi v1, xi v2, xi v3] μ P := by
  refine CC.ofRR (ll := [some (xr G 3), some (xi v1), some (xi v2), some (xi v3), none, none]) (by decide +kernel) (Nat.le_of_ble_eq_true rfl) rfl (fun h => by cases h) ?_
  refine xr_aload_n dX3_addMeaning_0 rfl ?_
  refine xr_iload_n dX3_addMeaning_1 rfl ?_
  refine xr_cvI (As := [xi v1]) dX3_addMeaning_2 mi_X3_hasWord ml_X3_55 se_X3_hasWord L_3 rfl rfl rfl (Nat.le_of_ble_eq_true rfl) h (fun r1 m2 hr1 h => ?_)
  obtain ⟨hT3, hF4⟩ := h
  refine xr_if_eq (tgt := 31) dX3_addMeaning_5 (by decide) hr1  (fun c => ?_) (fun c => ?_)
  · have h := hT3 c
    refine xr_iconst dX3_addMeaning_31 ?_
    exact xr_zret dX3_addMeaning_32 rfl (x_nz (by decide)).1 ⟨rfl, _, rfl, x_01 (by decide), h⟩
  · have h := hF4 c
    refine xr_aload_n dX3_addMeaning_8 rfl ?_
    refine xr_iload_n dX3_addMeaning_9 rfl ?_
    refine xr_cvI (As := [xi v2]) dX3_addMeaning_10 mi_X3_hasWord ml_X3_55 se_X3_hasWord L_3 rfl rfl rfl (Nat.le_of_ble_eq_true rfl) h (fun r5 m6 hr5 h => ?_)
    obtain ⟨hT7, hF8⟩ := h
    refine xr_if_eq (tgt := 31) dX3_addMeaning_13 (by decide) hr5  (fun c => ?_) (fun c => ?_)
    · have h := hT7 c
      refine xr_iconst dX3_addMeaning_31 ?_
      exact xr_zret dX3_addMeaning_32 rfl (x_nz (by decide)).1 ⟨rfl, _, rfl, x_01 (by decide), h⟩
    · have h := hF8 c
      refine xr_iload_n dX3_addMeaning_16 rfl ?_
      refine xr_iload_n dX3_addMeaning_17 rfl ?_
      obtain ⟨q9, q10, hT11, hF12⟩ := h
      refine xr_icmp_eq (tgt := 31) dX3_addMeaning_18 (by decide) q9 q10 (fun c => ?_) (fun c => ?_)
      · have h := hT11 c
        refine xr_iconst dX3_addMeaning_31 ?_
        exact xr_zret dX3_addMeaning_32 rfl (x_nz (by decide)).1 ⟨rfl, _, rfl, x_01 (by decide), h⟩
      · have h := hF12 c
        refine xr_aload_n dX3_addMeaning_21 rfl ?_
        refine xr_getR dX3_addMeaning_22 fl_X3_20 L_3 rfl ?_
        refine xr_cvI (As := []) dX3_addMeaning_25 mi_X4_isFull ml_X3_62 se_X4_isFull L_7 rfl rfl rfl (Nat.le_of_ble_eq_true rfl) h (fun r13 m14 hr13 h => ?_)
        obtain ⟨hT15, hF16⟩ := h
        refine xr_if_eq (tgt := 33) dX3_addMeaning_28 (by decide) hr13  (fun c => ?_) (fun c => ?_)
        · have h := hT15 c
          refine xr_aload_n dX3_addMeaning_33 rfl ?_
          refine xr_iload_n dX3_addMeaning_34 rfl ?_
          refine xr_iload_n dX3_addMeaning_35 rfl ?_
          refine xr_aload_n dX3_addMeaning_36 rfl ?_
          refine xr_getR dX3_addMeaning_37 fl_X3_20 L_3 rfl ?_
          refine xr_getI' (v := m14 7 2) dX3_addMeaning_40 fl_X3_51 L_7 rfl rfl rfl ?_
          refine xr_cvI (As := [xi v1, xi v2, xi (m14 7 2)]) dX3_addMeaning_43 mi_X3_isMeant ml_X3_83 se_X3_isMeant L_3 rfl rfl rfl (Nat.le_of_ble_eq_true rfl) h (fun r17 m18 hr17 h => ?_)
          obtain ⟨hT19, hF20⟩ := h
          refine xr_if_eq (tgt := 51) dX3_addMeaning_46 (by decide) hr17  (fun c => ?_) (fun c => ?_)
          · have h := hT19 c
            refine xr_aload_n dX3_addMeaning_51 rfl ?_
            refine xr_getR dX3_addMeaning_52 fl_X3_20 L_3 rfl ?_
            refine xr_iload_n dX3_addMeaning_55 rfl ?_
            refine xr_iload_n dX3_addMeaning_56 rfl ?_
            refine xr_cvI (As := [xi v1, xi v3]) dX3_addMeaning_57 mi_X4_add ml_X3_73 se_X4_add L_7 rfl rfl rfl (Nat.le_of_ble_eq_true rfl) h (fun r21 m22 hr21 h => ?_)
            refine xr_istore' (ll' := [some (xr G 3), some (xi v1), some (xi v2), some (xi v3), some (xi r21), none]) dX3_addMeaning_60 (by decide) rfl rfl ?_
            refine xr_aload_n dX3_addMeaning_62 rfl ?_
            refine xr_iload_n dX3_addMeaning_63 rfl ?_
            refine xr_aload_n dX3_addMeaning_64 rfl ?_
            refine xr_getR dX3_addMeaning_65 fl_X3_30 L_3 rfl ?_
            refine xr_iload_n dX3_addMeaning_68 rfl ?_
            obtain ⟨q23, h⟩ := h
            refine xr_iaload' (v := m22 14 v2) dX3_addMeaning_69 L_14 rfl (by decide) q23 rfl ?_
            refine xr_cvI (As := [xi v1, xi (m22 14 v2)]) dX3_addMeaning_70 mi_X3_chainOf ml_X3_87 se_X3_chainOf L_3 rfl rfl rfl (Nat.le_of_ble_eq_true rfl) h (fun r24 m25 hr24 h => ?_)
            refine xr_istore' (ll' := [some (xr G 3), some (xi v1), some (xi v2), some (xi v3), some (xi r21), some (xi r24)]) dX3_addMeaning_73 (by decide) rfl rfl ?_
            refine xr_aload_n dX3_addMeaning_75 rfl ?_
            refine xr_getR dX3_addMeaning_76 fl_X3_39 L_3 rfl ?_
            refine xr_iload dX3_addMeaning_79 rfl ?_
            refine xr_iload_n dX3_addMeaning_81 rfl ?_
            obtain ⟨q26, h⟩ := h
            refine xr_iastore dX3_addMeaning_82 L_17 rfl (by decide) q26 ?_
            refine xr_aload_n dX3_addMeaning_83 rfl ?_
            refine xr_getR dX3_addMeaning_84 fl_X3_36 L_3 rfl ?_
            refine xr_iload dX3_addMeaning_87 rfl ?_
            refine xr_aload_n dX3_addMeaning_89 rfl ?_
            refine xr_getR dX3_addMeaning_90 fl_X3_33 L_3 rfl ?_
            refine xr_iload dX3_addMeaning_93 rfl ?_
            obtain ⟨q27, h⟩ := h
            refine xr_iaload' (v := m25 15 r24) dX3_addMeaning_95 L_15 rfl (by decide) q27 (by simp [st2, cpy]) ?_
            refine xr_iastore dX3_addMeaning_96 L_16 rfl (by decide) q26 ?_
            refine xr_aload_n dX3_addMeaning_97 rfl ?_
            refine xr_getR dX3_addMeaning_98 fl_X3_33 L_3 rfl ?_
            refine xr_iload dX3_addMeaning_101 rfl ?_
            refine xr_iload dX3_addMeaning_103 rfl ?_
            refine xr_iastore dX3_addMeaning_105 L_15 rfl (by decide) q27 ?_
            refine xr_iconst dX3_addMeaning_106 ?_
            exact xr_zret dX3_addMeaning_107 rfl (x_nz (by decide)).1 ⟨rfl, _, rfl, x_01 (by decide), h⟩
          · have h := hF20 c
            refine xr_iconst dX3_addMeaning_49 ?_
            exact xr_zret dX3_addMeaning_50 rfl (x_nz (by decide)).1 ⟨rfl, _, rfl, x_01 (by decide), h⟩
        · have h := hF16 c
          refine xr_iconst dX3_addMeaning_31 ?_
          exact xr_zret dX3_addMeaning_32 rfl (x_nz (by decide)).1 ⟨rfl, _, rfl, x_01 (by decide), h⟩
set_option maxRecDepth 20000 in
theorem E_X3_addSign {G : xG} {l : Launch} {d : Nat} {P : Int → xMem → Prop} {v1 v2 v3 : Int} {μ : xMem} (h : CI G l d mX3_hasWord [xr G 3, xi v1] μ (fun r1 m2 => ((r1 = 0 → P 0 m2) ∧ (r1 ≠ 0 → (iR v2 ∧ (v2 < 0 → P 0 m2) ∧ (0 ≤ v2 → ((10 ≤ v2 → P 0 m2) ∧ (v2 < 10 → CI G l d mX4_isFull [xr G 10] m2 (fun r10 m11 => ((r10 = 0 → ((0 ≤ (v1 * 10) + v2 ∧ (v1 * 10) + v2 < 1200) ∧ (iR (m11 18 ((v1 * 10) + v2)) ∧ ((m11 18 ((v1 * 10) + v2)) = (-1) → CI G l d mX4_add [xr G 10, xi v1, xi v3] m11 (fun r18 m19 => P 1 (st2 m19 18 ((v1 * 10) + v2) r18))) ∧ ((m11 18 ((v1 * 10) + v2)) ≠ (-1) → P 0 m11)))) ∧ (r10 ≠ 0 → P 0 m11))))))))))) : CI G l (d + 1) mX3_addSign [xr G 3, xi v1, xi v2, xi v3] μ P := by
  refine CC.ofRR (ll := [some (xr G 3), some (xi v1), some (xi v2), some (xi v3)]) (by decide +kernel) (Nat.le_of_ble_eq_true rfl) rfl (fun h => by cases h) ?_
  refine xr_aload_n dX3_addSign_0 rfl ?_
  refine xr_iload_n dX3_addSign_1 rfl ?_
  refine xr_cvI (As := [xi v1]) dX3_addSign_2 mi_X3_hasWord ml_X3_55 se_X3_hasWord L_3 rfl rfl rfl (Nat.le_of_ble_eq_true rfl) h (fun r1 m2 hr1 h => ?_)
  obtain ⟨hT3, hF4⟩ := h
  refine xr_if_eq (tgt := 28) dX3_addSign_5 (by decide) hr1  (fun c => ?_) (fun c => ?_)
  · have h := hT3 c
    refine xr_iconst dX3_addSign_28 ?_
    exact xr_zret dX3_addSign_29 rfl (x_nz (by decide)).1 ⟨rfl, _, rfl, x_01 (by decide), h⟩
  · have h := hF4 c
    refine xr_iload_n dX3_addSign_8 rfl ?_
    obtain ⟨q5, hT6, hF7⟩ := h
    refine xr_if_lt (tgt := 28) dX3_addSign_9 (by decide) q5  (fun c => ?_) (fun c => ?_)
    · have h := hT6 c
      refine xr_iconst dX3_addSign_28 ?_
      exact xr_zret dX3_addSign_29 rfl (x_nz (by decide)).1 ⟨rfl, _, rfl, x_01 (by decide), h⟩
    · have h := hF7 (Int.not_lt.mp c)
      refine xr_iload_n dX3_addSign_12 rfl ?_
      refine xr_bipush dX3_addSign_13 (by decide) ?_
      obtain ⟨hT8, hF9⟩ := h
      refine xr_icmp_ge (tgt := 28) dX3_addSign_15 (by decide) q5 (by decide) (fun c => ?_) (fun c => ?_)
      · have h := hT8 c
        refine xr_iconst dX3_addSign_28 ?_
        exact xr_zret dX3_addSign_29 rfl (x_nz (by decide)).1 ⟨rfl, _, rfl, x_01 (by decide), h⟩
      · have h := hF9 (Int.not_le.mp c)
        refine xr_aload_n dX3_addSign_18 rfl ?_
        refine xr_getR dX3_addSign_19 fl_X3_23 L_3 rfl ?_
        refine xr_cvI (As := []) dX3_addSign_22 mi_X4_isFull ml_X3_62 se_X4_isFull L_10 rfl rfl rfl (Nat.le_of_ble_eq_true rfl) h (fun r10 m11 hr10 h => ?_)
        obtain ⟨hT12, hF13⟩ := h
        refine xr_if_eq (tgt := 30) dX3_addSign_25 (by decide) hr10  (fun c => ?_) (fun c => ?_)
        · have h := hT12 c
          refine xr_aload_n dX3_addSign_30 rfl ?_
          refine xr_getR dX3_addSign_31 fl_X3_42 L_3 rfl ?_
          refine xr_iload_n dX3_addSign_34 rfl ?_
          refine xr_bipush dX3_addSign_35 (by decide) ?_
          refine xr_imul dX3_addSign_37 ?_
          refine xr_iload_n dX3_addSign_38 rfl ?_
          refine xr_iadd dX3_addSign_39 ?_
          obtain ⟨q14, h⟩ := h
          refine xr_iaload' (v := m11 18 ((v1 * 10) + v2)) dX3_addSign_40 L_18 rfl (by decide) q14 rfl ?_
          refine xr_iconst dX3_addSign_41 ?_
          obtain ⟨q15, hT16, hF17⟩ := h
          refine xr_icmp_eq (tgt := 47) dX3_addSign_42 (by decide) q15 (by decide) (fun c => ?_) (fun c => ?_)
          · have h := hT16 c
            refine xr_aload_n dX3_addSign_47 rfl ?_
            refine xr_getR dX3_addSign_48 fl_X3_42 L_3 rfl ?_
            refine xr_iload_n dX3_addSign_51 rfl ?_
            refine xr_bipush dX3_addSign_52 (by decide) ?_
            refine xr_imul dX3_addSign_54 ?_
            refine xr_iload_n dX3_addSign_55 rfl ?_
            refine xr_iadd dX3_addSign_56 ?_
            refine xr_aload_n dX3_addSign_57 rfl ?_
            refine xr_getR dX3_addSign_58 fl_X3_23 L_3 rfl ?_
            refine xr_iload_n dX3_addSign_61 rfl ?_
            refine xr_iload_n dX3_addSign_62 rfl ?_
            refine xr_cvI (As := [xi v1, xi v3]) dX3_addSign_63 mi_X4_add ml_X3_73 se_X4_add L_10 rfl rfl rfl (Nat.le_of_ble_eq_true rfl) h (fun r18 m19 hr18 h => ?_)
            refine xr_iastore dX3_addSign_66 L_18 rfl (by decide) q14 ?_
            refine xr_iconst dX3_addSign_67 ?_
            exact xr_zret dX3_addSign_68 rfl (x_nz (by decide)).1 ⟨rfl, _, rfl, x_01 (by decide), h⟩
          · have h := hF17 c
            refine xr_iconst dX3_addSign_45 ?_
            exact xr_zret dX3_addSign_46 rfl (x_nz (by decide)).1 ⟨rfl, _, rfl, x_01 (by decide), h⟩
        · have h := hF13 c
          refine xr_iconst dX3_addSign_28 ?_
          exact xr_zret dX3_addSign_29 rfl (x_nz (by decide)).1 ⟨rfl, _, rfl, x_01 (by decide), h⟩
def K_X3_playsOf_5 (G : xG) (l : Launch) (d : Nat) (P : Int → xMem → Prop) (v1 v2 v3 v4 : Int) (μ : xMem) : Prop := RR G l d 0 0 false mX3_playsOf (qI P) 5 [some (xr G 3), some (xi v1), some (xi v2), some (xi v3), some (xi v4), none] [] LAY μ 0 0
set_option maxRecDepth 20000 in
theorem E_X3_playsOf {G : xG} {l : Launch} {d : Nat} {P : Int → xMem → Prop} {v1 v2 : Int} {μ : xMem} (h : K_X3_playsOf_5 G l (d + 1) P v1 v2 0 0 μ) : CI G l (d + 1) mX3_playsOf [xr G 3, xi v1, xi v2] μ P := by
  refine CC.ofRR (ll := [some (xr G 3), some (xi v1), some (xi v2), none, none, none]) (by decide +kernel) (Nat.le_of_ble_eq_true rfl) rfl (fun h => by cases h) ?_
  refine xr_iconst dX3_playsOf_0 ?_
  refine xr_istore_n' (ll' := [some (xr G 3), some (xi v1), some (xi v2), some (xi 0), none, none]) dX3_playsOf_1 (by decide) rfl rfl ?_
  refine xr_iconst dX3_playsOf_2 ?_
  refine xr_istore' (ll' := [some (xr G 3), some (xi v1), some (xi v2), some (xi 0), some (xi 0), none]) dX3_playsOf_3 (by decide) rfl rfl ?_
  exact h
set_option maxRecDepth 20000 in
theorem B_X3_playsOf_5 {G : xG} {l : Launch} {d : Nat} {P : Int → xMem → Prop} {v1 v2 v3 v4 : Int} {μ : xMem} (h : (iR v4 ∧ (10 ≤ v4 → (iR v3 ∧ P v3 μ)) ∧ (v4 < 10 → ((0 ≤ (v1 * 10) + v4 ∧ (v1 * 10) + v4 < 1200) ∧ (iR (μ 18 ((v1 * 10) + v4)) ∧ ((μ 18 ((v1 * 10) + v4)) = (-1) → K_X3_playsOf_5 G l (d + 1) P v1 v2 v3 (v4 + 1) μ) ∧ ((μ 18 ((v1 * 10) + v4)) ≠ (-1) → (iR v2 ∧ (v2 ≤ (μ 18 ((v1 * 10) + v4)) → K_X3_playsOf_5 G l (d + 1) P v1 v2 v3 (v4 + 1) μ) ∧ ((μ 18 ((v1 * 10) + v4)) < v2 → K_X3_playsOf_5 G l (d + 1) P v1 v2 (jor v3 (jshl 1 v4)) (v4 + 1) μ)))))))) : K_X3_playsOf_5 G l (d + 1) P v1 v2 v3 v4 μ := by
  unfold K_X3_playsOf_5
  refine xr_iload dX3_playsOf_5 rfl ?_
  refine xr_bipush dX3_playsOf_7 (by decide) ?_
  obtain ⟨q1, hT2, hF3⟩ := h
  refine xr_icmp_ge (tgt := 51) dX3_playsOf_9 (by decide) q1 (by decide) (fun c => ?_) (fun c => ?_)
  · have h := hT2 c
    refine xr_iload_n dX3_playsOf_51 rfl ?_
    obtain ⟨q4, h⟩ := h
    exact xr_iret dX3_playsOf_52 rfl ⟨rfl, _, rfl, q4, h⟩
  · have h := hF3 (Int.not_le.mp c)
    refine xr_aload_n dX3_playsOf_12 rfl ?_
    refine xr_getR dX3_playsOf_13 fl_X3_42 L_3 rfl ?_
    refine xr_iload_n dX3_playsOf_16 rfl ?_
    refine xr_bipush dX3_playsOf_17 (by decide) ?_
    refine xr_imul dX3_playsOf_19 ?_
    refine xr_iload dX3_playsOf_20 rfl ?_
    refine xr_iadd dX3_playsOf_22 ?_
    obtain ⟨q5, h⟩ := h
    refine xr_iaload' (v := μ 18 ((v1 * 10) + v4)) dX3_playsOf_23 L_18 rfl (by decide) q5 rfl ?_
    refine xr_istore' (ll' := [some (xr G 3), some (xi v1), some (xi v2), some (xi v3), some (xi v4), some (xi (μ 18 ((v1 * 10) + v4)))]) dX3_playsOf_24 (by decide) rfl rfl ?_
    refine xr_iload dX3_playsOf_26 rfl ?_
    refine xr_iconst dX3_playsOf_28 ?_
    obtain ⟨q6, hT7, hF8⟩ := h
    refine xr_icmp_eq (tgt := 45) dX3_playsOf_29 (by decide) q6 (by decide) (fun c => ?_) (fun c => ?_)
    · have h := hT7 c
      refine xr_iinc' (ll' := [some (xr G 3), some (xi v1), some (xi v2), some (xi v3), some (xi (v4 + 1)), some (xi (μ 18 ((v1 * 10) + v4)))]) dX3_playsOf_45 rfl (by decide) rfl rfl ?_
      refine xr_goto (tgt := 5) dX3_playsOf_48 (by decide) ?_
      refine xr_wk (ll' := [some (xr G 3), some (xi v1), some (xi v2), some (xi v3), some (xi (v4 + 1)), none]) ⟨rfl, ⟨rfl, ⟨rfl, ⟨rfl, ⟨rfl, trivial⟩⟩⟩⟩⟩ ?_
      exact h
    · have h := hF8 c
      refine xr_iload dX3_playsOf_32 rfl ?_
      refine xr_iload_n dX3_playsOf_34 rfl ?_
      obtain ⟨q9, hT10, hF11⟩ := h
      refine xr_icmp_ge (tgt := 45) dX3_playsOf_35 (by decide) q6 q9 (fun c => ?_) (fun c => ?_)
      · have h := hT10 c
        refine xr_iinc' (ll' := [some (xr G 3), some (xi v1), some (xi v2), some (xi v3), some (xi (v4 + 1)), some (xi (μ 18 ((v1 * 10) + v4)))]) dX3_playsOf_45 rfl (by decide) rfl rfl ?_
        refine xr_goto (tgt := 5) dX3_playsOf_48 (by decide) ?_
        refine xr_wk (ll' := [some (xr G 3), some (xi v1), some (xi v2), some (xi v3), some (xi (v4 + 1)), none]) ⟨rfl, ⟨rfl, ⟨rfl, ⟨rfl, ⟨rfl, trivial⟩⟩⟩⟩⟩ ?_
        exact h
      · have h := hF11 (Int.not_le.mp c)
        refine xr_iload_n dX3_playsOf_38 rfl ?_
        refine xr_iconst dX3_playsOf_39 ?_
        refine xr_iload dX3_playsOf_40 rfl ?_
        refine xr_ishl dX3_playsOf_42 ?_
        refine xr_ior dX3_playsOf_43 ?_
        refine xr_istore_n' (ll' := [some (xr G 3), some (xi v1), some (xi v2), some (xi (jor v3 (jshl 1 v4))), some (xi v4), some (xi (μ 18 ((v1 * 10) + v4)))]) dX3_playsOf_44 (by decide) rfl rfl ?_
        refine xr_iinc' (ll' := [some (xr G 3), some (xi v1), some (xi v2), some (xi (jor v3 (jshl 1 v4))), some (xi (v4 + 1)), some (xi (μ 18 ((v1 * 10) + v4)))]) dX3_playsOf_45 rfl (by decide) rfl rfl ?_
        refine xr_goto (tgt := 5) dX3_playsOf_48 (by decide) ?_
        refine xr_wk (ll' := [some (xr G 3), some (xi v1), some (xi v2), some (xi (jor v3 (jshl 1 v4))), some (xi (v4 + 1)), none]) ⟨rfl, ⟨rfl, ⟨rfl, ⟨rfl, ⟨rfl, trivial⟩⟩⟩⟩⟩ ?_
        exact h
set_option maxRecDepth 20000 in
theorem E_X3_chainOf {G : xG} {l : Launch} {d : Nat} {P : Int → xMem → Prop} {v1 v2 : Int} {μ : xMem} (h : (iR ((v1 * 11) + v2) ∧ P ((v1 * 11) + v2) μ)) : CI G l (d + 1) mX3_chainOf [xr G 3, xi v1, xi v2] μ P := by
  refine CC.ofRR (ll := [some (xr G 3), some (xi v1), some (xi v2)]) (by decide +kernel) (Nat.le_of_ble_eq_true rfl) rfl (fun h => by cases h) ?_
  refine xr_iload_n dX3_chainOf_0 rfl ?_
  refine xr_bipush dX3_chainOf_1 (by decide) ?_
  refine xr_imul dX3_chainOf_3 ?_
  refine xr_iload_n dX3_chainOf_4 rfl ?_
  refine xr_iadd dX3_chainOf_5 ?_
  obtain ⟨q1, h⟩ := h
  exact xr_iret dX3_chainOf_6 rfl ⟨rfl, _, rfl, q1, h⟩
def K_X3_isMeant_21 (G : xG) (l : Launch) (d : Nat) (P : Int → xMem → Prop) (v2 v3 v4 v5 : Int) (μ : xMem) : Prop := RR G l d 0 0 false mX3_isMeant (qI P) 21 [some (xr G 3), none, some (xi v2), some (xi v3), some (xi v4), some (xi v5)] [] LAY μ 0 0
set_option maxRecDepth 20000 in
theorem E_X3_isMeant {G : xG} {l : Launch} {d : Nat} {P : Int → xMem → Prop} {v1 v2 v3 : Int} {μ : xMem} (h : ((0 ≤ v2 ∧ v2 < 120) ∧ CI G l d mX3_chainOf [xr G 3, xi v1, xi (μ 14 v2)] μ (fun r2 m3 => ((0 ≤ r2 ∧ r2 < 1320) ∧ K_X3_isMeant_21 G l (d + 1) P v2 v3 (m3 15 r2) 0 m3)))) : CI G l (d + 1) mX3_isMeant [xr G 3, xi v1, xi v2, xi v3] μ P := by
  refine CC.ofRR (ll := [some (xr G 3), some (xi v1), some (xi v2), some (xi v3), none, none]) (by decide +kernel) (Nat.le_of_ble_eq_true rfl) rfl (fun h => by cases h) ?_
  refine xr_aload_n dX3_isMeant_0 rfl ?_
  refine xr_getR dX3_isMeant_1 fl_X3_33 L_3 rfl ?_
  refine xr_aload_n dX3_isMeant_4 rfl ?_
  refine xr_iload_n dX3_isMeant_5 rfl ?_
  refine xr_aload_n dX3_isMeant_6 rfl ?_
  refine xr_getR dX3_isMeant_7 fl_X3_30 L_3 rfl ?_
  refine xr_iload_n dX3_isMeant_10 rfl ?_
  obtain ⟨q1, h⟩ := h
  refine xr_iaload' (v := μ 14 v2) dX3_isMeant_11 L_14 rfl (by decide) q1 rfl ?_
  refine xr_cvI (As := [xi v1, xi (μ 14 v2)]) dX3_isMeant_12 mi_X3_chainOf ml_X3_87 se_X3_chainOf L_3 rfl rfl rfl (Nat.le_of_ble_eq_true rfl) h (fun r2 m3 hr2 h => ?_)
  obtain ⟨q4, h⟩ := h
  refine xr_iaload' (v := m3 15 r2) dX3_isMeant_15 L_15 rfl (by decide) q4 rfl ?_
  refine xr_istore' (ll' := [some (xr G 3), some (xi v1), some (xi v2), some (xi v3), some (xi (m3 15 r2)), none]) dX3_isMeant_16 (by decide) rfl rfl ?_
  refine xr_iconst dX3_isMeant_18 ?_
  refine xr_istore' (ll' := [some (xr G 3), some (xi v1), some (xi v2), some (xi v3), some (xi (m3 15 r2)), some (xi 0)]) dX3_isMeant_19 (by decide) rfl rfl ?_
  refine xr_wk (ll' := [some (xr G 3), none, some (xi v2), some (xi v3), some (xi (m3 15 r2)), some (xi 0)]) ⟨rfl, ⟨rfl, ⟨rfl, ⟨rfl, ⟨rfl, trivial⟩⟩⟩⟩⟩ ?_
  exact h
set_option maxRecDepth 20000 in
theorem B_X3_isMeant_21 {G : xG} {l : Launch} {d : Nat} {P : Int → xMem → Prop} {v2 v3 v4 v5 : Int} {μ : xMem} (h : (iR v5 ∧ (240 ≤ v5 → P 0 μ) ∧ (v5 < 240 → (iR v4 ∧ (v4 = (-1) → P 0 μ) ∧ (v4 ≠ (-1) → ((0 ≤ v4 ∧ v4 < 240) ∧ (iR (μ 17 v4) ∧ iR v2 ∧ ((μ 17 v4) ≠ v2 → K_X3_isMeant_21 G l (d + 1) P v2 v3 (μ 16 v4) (v5 + 1) μ) ∧ ((μ 17 v4) = v2 → (iR v3 ∧ (v3 ≤ v4 → P 0 μ) ∧ (v4 < v3 → P 1 μ)))))))))) : K_X3_isMeant_21 G l (d + 1) P v2 v3 v4 v5 μ := by
  unfold K_X3_isMeant_21
  refine xr_iload dX3_isMeant_21 rfl ?_
  refine xr_sipush dX3_isMeant_23 (by decide) ?_
  obtain ⟨q1, hT2, hF3⟩ := h
  refine xr_icmp_ge (tgt := 73) dX3_isMeant_26 (by decide) q1 (by decide) (fun c => ?_) (fun c => ?_)
  · have h := hT2 c
    refine xr_iconst dX3_isMeant_73 ?_
    exact xr_zret dX3_isMeant_74 rfl (x_nz (by decide)).1 ⟨rfl, _, rfl, x_01 (by decide), h⟩
  · have h := hF3 (Int.not_le.mp c)
    refine xr_iload dX3_isMeant_29 rfl ?_
    refine xr_iconst dX3_isMeant_31 ?_
    obtain ⟨q4, hT5, hF6⟩ := h
    refine xr_icmp_eq (tgt := 73) dX3_isMeant_32 (by decide) q4 (by decide) (fun c => ?_) (fun c => ?_)
    · have h := hT5 c
      refine xr_iconst dX3_isMeant_73 ?_
      exact xr_zret dX3_isMeant_74 rfl (x_nz (by decide)).1 ⟨rfl, _, rfl, x_01 (by decide), h⟩
    · have h := hF6 c
      refine xr_aload_n dX3_isMeant_35 rfl ?_
      refine xr_getR dX3_isMeant_36 fl_X3_39 L_3 rfl ?_
      refine xr_iload dX3_isMeant_39 rfl ?_
      obtain ⟨q7, h⟩ := h
      refine xr_iaload' (v := μ 17 v4) dX3_isMeant_41 L_17 rfl (by decide) q7 rfl ?_
      refine xr_iload_n dX3_isMeant_42 rfl ?_
      obtain ⟨q8, q9, hT10, hF11⟩ := h
      refine xr_icmp_ne (tgt := 58) dX3_isMeant_43 (by decide) q8 q9 (fun c => ?_) (fun c => ?_)
      · have h := hT10 c
        refine xr_aload_n dX3_isMeant_58 rfl ?_
        refine xr_getR dX3_isMeant_59 fl_X3_36 L_3 rfl ?_
        refine xr_iload dX3_isMeant_62 rfl ?_
        refine xr_iaload' (v := μ 16 v4) dX3_isMeant_64 L_16 rfl (by decide) q7 rfl ?_
        refine xr_istore' (ll' := [some (xr G 3), none, some (xi v2), some (xi v3), some (xi (μ 16 v4)), some (xi v5)]) dX3_isMeant_65 (by decide) rfl rfl ?_
        refine xr_iinc' (ll' := [some (xr G 3), none, some (xi v2), some (xi v3), some (xi (μ 16 v4)), some (xi (v5 + 1))]) dX3_isMeant_67 rfl (by decide) rfl rfl ?_
        refine xr_goto (tgt := 21) dX3_isMeant_70 (by decide) ?_
        exact h
      · have h := hF11 c
        refine xr_iload dX3_isMeant_46 rfl ?_
        refine xr_iload_n dX3_isMeant_48 rfl ?_
        obtain ⟨q12, hT13, hF14⟩ := h
        refine xr_icmp_ge (tgt := 56) dX3_isMeant_49 (by decide) q4 q12 (fun c => ?_) (fun c => ?_)
        · have h := hT13 c
          refine xr_iconst dX3_isMeant_56 ?_
          exact xr_zret dX3_isMeant_57 rfl (x_nz (by decide)).1 ⟨rfl, _, rfl, x_01 (by decide), h⟩
        · have h := hF14 (Int.not_le.mp c)
          refine xr_iconst dX3_isMeant_52 ?_
          refine xr_goto (tgt := 57) dX3_isMeant_53 (by decide) ?_
          exact xr_zret dX3_isMeant_57 rfl (x_nz (by decide)).1 ⟨rfl, _, rfl, x_01 (by decide), h⟩
def K_X3_find_3 (G : xG) (l : Launch) (d : Nat) (P : Int → xMem → Prop) (k1 : Nat) (n1 : Nat) (v2 v3 v4 : Int) (μ : xMem) : Prop := RR G l d 0 0 false mX3_find (qI P) 3 [some (xr G 3), some (xr G k1), some (xi v2), some (xi v3), some (xi v4)] [] LAY μ 0 0
set_option maxRecDepth 20000 in
theorem E_X3_find {G : xG} {l : Launch} {d : Nat} {P : Int → xMem → Prop} {k1 : Nat} {n1 : Nat} (hk1 : LAY[k1]? = some (.inl (0, n1))) (hn1 : n1 < 2147483648) {v2 v3 : Int} {μ : xMem} (h : K_X3_find_3 G l (d + 1) P k1 n1 v2 v3 0 μ) : CI G l (d + 1) mX3_find [xr G 3, xr G k1, xi v2, xi v3] μ P := by
  refine CC.ofRR (ll := [some (xr G 3), some (xr G k1), some (xi v2), some (xi v3), none]) (by decide +kernel) (Nat.le_of_ble_eq_true rfl) rfl (fun h => by cases h) ?_
  refine xr_iconst dX3_find_0 ?_
  refine xr_istore' (ll' := [some (xr G 3), some (xr G k1), some (xi v2), some (xi v3), some (xi 0)]) dX3_find_1 (by decide) rfl rfl ?_
  exact h
set_option maxRecDepth 20000 in
theorem B_X3_find_3 {G : xG} {l : Launch} {d : Nat} {P : Int → xMem → Prop} {k1 : Nat} {n1 : Nat} (hk1 : LAY[k1]? = some (.inl (0, n1))) (hn1 : n1 < 2147483648) {v2 v3 v4 : Int} {μ : xMem} (h : (iR v4 ∧ iR (μ 4 2) ∧ ((μ 4 2) ≤ v4 → P (-1) μ) ∧ (v4 < (μ 4 2) → ((0 ≤ v4 ∧ v4 < 120) ∧ (iR (μ 14 v4) ∧ iR v3 ∧ ((μ 14 v4) ≠ v3 → K_X3_find_3 G l (d + 1) P k1 n1 v2 v3 (v4 + 1) μ) ∧ ((μ 14 v4) = v3 → CI G l d mX3_isSpelled [xr G 3, xi v4, xi 0, xr G k1, xi v2, xi v3] μ (fun r10 m11 => ((r10 = 0 → K_X3_find_3 G l (d + 1) P k1 n1 v2 v3 (v4 + 1) m11) ∧ (r10 ≠ 0 → P v4 m11))))))))) : K_X3_find_3 G l (d + 1) P k1 n1 v2 v3 v4 μ := by
  unfold K_X3_find_3
  refine xr_iload dX3_find_3 rfl ?_
  refine xr_aload_n dX3_find_5 rfl ?_
  refine xr_getR dX3_find_6 fl_X3_14 L_3 rfl ?_
  refine xr_getI' (v := μ 4 2) dX3_find_9 fl_X3_51 L_4 rfl rfl rfl ?_
  obtain ⟨q1, q2, hT3, hF4⟩ := h
  refine xr_icmp_ge (tgt := 48) dX3_find_12 (by decide) q1 q2 (fun c => ?_) (fun c => ?_)
  · have h := hT3 c
    refine xr_iconst dX3_find_48 ?_
    exact xr_iret dX3_find_49 rfl ⟨rfl, _, rfl, (by decide), h⟩
  · have h := hF4 (Int.not_le.mp c)
    refine xr_aload_n dX3_find_15 rfl ?_
    refine xr_getR dX3_find_16 fl_X3_30 L_3 rfl ?_
    refine xr_iload dX3_find_19 rfl ?_
    obtain ⟨q5, h⟩ := h
    refine xr_iaload' (v := μ 14 v4) dX3_find_21 L_14 rfl (by decide) q5 rfl ?_
    refine xr_iload_n dX3_find_22 rfl ?_
    obtain ⟨q6, q7, hT8, hF9⟩ := h
    refine xr_icmp_ne (tgt := 42) dX3_find_23 (by decide) q6 q7 (fun c => ?_) (fun c => ?_)
    · have h := hT8 c
      refine xr_iinc' (ll' := [some (xr G 3), some (xr G k1), some (xi v2), some (xi v3), some (xi (v4 + 1))]) dX3_find_42 rfl (by decide) rfl rfl ?_
      refine xr_goto (tgt := 3) dX3_find_45 (by decide) ?_
      exact h
    · have h := hF9 c
      refine xr_aload_n dX3_find_26 rfl ?_
      refine xr_iload dX3_find_27 rfl ?_
      refine xr_iconst dX3_find_29 ?_
      refine xr_aload_n dX3_find_30 rfl ?_
      refine xr_iload_n dX3_find_31 rfl ?_
      refine xr_iload_n dX3_find_32 rfl ?_
      refine xr_cvI (As := [xi v4, xi 0, xr G k1, xi v2, xi v3]) dX3_find_33 mi_X3_isSpelled ml_X3_90 se_X3_isSpelled L_3 rfl rfl rfl (Nat.le_of_ble_eq_true rfl) h (fun r10 m11 hr10 h => ?_)
      obtain ⟨hT12, hF13⟩ := h
      refine xr_if_eq (tgt := 42) dX3_find_36 (by decide) hr10  (fun c => ?_) (fun c => ?_)
      · have h := hT12 c
        refine xr_iinc' (ll' := [some (xr G 3), some (xr G k1), some (xi v2), some (xi v3), some (xi (v4 + 1))]) dX3_find_42 rfl (by decide) rfl rfl ?_
        refine xr_goto (tgt := 3) dX3_find_45 (by decide) ?_
        exact h
      · have h := hF13 c
        refine xr_iload dX3_find_39 rfl ?_
        exact xr_iret dX3_find_41 rfl ⟨rfl, _, rfl, q1, h⟩
def K_X3_isSpelled_11 (G : xG) (l : Launch) (d : Nat) (P : Int → xMem → Prop) (k3 : Nat) (n3 : Nat) (v4 v5 v6 v7 : Int) (μ : xMem) : Prop := RR G l d 0 0 false mX3_isSpelled (qI P) 11 [some (xr G 3), none, none, some (xr G k3), some (xi v4), some (xi v5), some (xi v6), some (xi v7)] [] LAY μ 0 0
set_option maxRecDepth 20000 in
theorem E_X3_isSpelled {G : xG} {l : Launch} {d : Nat} {P : Int → xMem → Prop} {k3 : Nat} {n3 : Nat} (hk3 : LAY[k3]? = some (.inl (0, n3))) (hn3 : n3 < 2147483648) {v1 v2 v4 v5 : Int} {μ : xMem} (h : K_X3_isSpelled_11 G l (d + 1) P k3 n3 v4 v5 ((v1 * 10) + v2) 0 μ) : CI G l (d + 1) mX3_isSpelled [xr G 3, xi v1, xi v2, xr G k3, xi v4, xi v5] μ P := by
  refine CC.ofRR (ll := [some (xr G 3), some (xi v1), some (xi v2), some (xr G k3), some (xi v4), some (xi v5), none, none]) (by decide +kernel) (Nat.le_of_ble_eq_true rfl) rfl (fun h => by cases h) ?_
  refine xr_iload_n dX3_isSpelled_0 rfl ?_
  refine xr_bipush dX3_isSpelled_1 (by decide) ?_
  refine xr_imul dX3_isSpelled_3 ?_
  refine xr_iload_n dX3_isSpelled_4 rfl ?_
  refine xr_iadd dX3_isSpelled_5 ?_
  refine xr_istore' (ll' := [some (xr G 3), some (xi v1), some (xi v2), some (xr G k3), some (xi v4), some (xi v5), some (xi ((v1 * 10) + v2)), none]) dX3_isSpelled_6 (by decide) rfl rfl ?_
  refine xr_iconst dX3_isSpelled_8 ?_
  refine xr_istore' (ll' := [some (xr G 3), some (xi v1), some (xi v2), some (xr G k3), some (xi v4), some (xi v5), some (xi ((v1 * 10) + v2)), some (xi 0)]) dX3_isSpelled_9 (by decide) rfl rfl ?_
  refine xr_wk (ll' := [some (xr G 3), none, none, some (xr G k3), some (xi v4), some (xi v5), some (xi ((v1 * 10) + v2)), some (xi 0)]) ⟨rfl, ⟨rfl, ⟨rfl, ⟨rfl, ⟨rfl, ⟨rfl, trivial⟩⟩⟩⟩⟩⟩ ?_
  exact h
set_option maxRecDepth 20000 in
theorem B_X3_isSpelled_11 {G : xG} {l : Launch} {d : Nat} {P : Int → xMem → Prop} {k3 : Nat} {n3 : Nat} (hk3 : LAY[k3]? = some (.inl (0, n3))) (hn3 : n3 < 2147483648) {v4 v5 v6 v7 : Int} {μ : xMem} (h : (iR v7 ∧ iR v5 ∧ (v5 ≤ v7 → P 1 μ) ∧ (v7 < v5 → ((0 ≤ v6 + v7 ∧ v6 + v7 < 1200) ∧ ((0 ≤ v4 + v7 ∧ v4 + v7 < (n3 : Int)) ∧ (iR (μ 13 (v6 + v7)) ∧ iR (μ k3 (v4 + v7)) ∧ ((μ 13 (v6 + v7)) = (μ k3 (v4 + v7)) → K_X3_isSpelled_11 G l (d + 1) P k3 n3 v4 v5 v6 (v7 + 1) μ) ∧ ((μ 13 (v6 + v7)) ≠ (μ k3 (v4 + v7)) → P 0 μ))))))) : K_X3_isSpelled_11 G l (d + 1) P k3 n3 v4 v5 v6 v7 μ := by
  unfold K_X3_isSpelled_11
  refine xr_iload dX3_isSpelled_11 rfl ?_
  refine xr_iload dX3_isSpelled_13 rfl ?_
  obtain ⟨q1, q2, hT3, hF4⟩ := h
  refine xr_icmp_ge (tgt := 46) dX3_isSpelled_15 (by decide) q1 q2 (fun c => ?_) (fun c => ?_)
  · have h := hT3 c
    refine xr_iconst dX3_isSpelled_46 ?_
    exact xr_zret dX3_isSpelled_47 rfl (x_nz (by decide)).1 ⟨rfl, _, rfl, x_01 (by decide), h⟩
  · have h := hF4 (Int.not_le.mp c)
    refine xr_aload_n dX3_isSpelled_18 rfl ?_
    refine xr_getR dX3_isSpelled_19 fl_X3_26 L_3 rfl ?_
    refine xr_iload dX3_isSpelled_22 rfl ?_
    refine xr_iload dX3_isSpelled_24 rfl ?_
    refine xr_iadd dX3_isSpelled_26 ?_
    obtain ⟨q5, h⟩ := h
    refine xr_iaload' (v := μ 13 (v6 + v7)) dX3_isSpelled_27 L_13 rfl (by decide) q5 rfl ?_
    refine xr_aload_n dX3_isSpelled_28 rfl ?_
    refine xr_iload dX3_isSpelled_29 rfl ?_
    refine xr_iload dX3_isSpelled_31 rfl ?_
    refine xr_iadd dX3_isSpelled_33 ?_
    obtain ⟨q6, h⟩ := h
    refine xr_iaload' (v := μ k3 (v4 + v7)) dX3_isSpelled_34 hk3 rfl hn3 q6 rfl ?_
    obtain ⟨q7, q8, hT9, hF10⟩ := h
    refine xr_icmp_eq (tgt := 40) dX3_isSpelled_35 (by decide) q7 q8 (fun c => ?_) (fun c => ?_)
    · have h := hT9 c
      refine xr_iinc' (ll' := [some (xr G 3), none, none, some (xr G k3), some (xi v4), some (xi v5), some (xi v6), some (xi (v7 + 1))]) dX3_isSpelled_40 rfl (by decide) rfl rfl ?_
      refine xr_goto (tgt := 11) dX3_isSpelled_43 (by decide) ?_
      exact h
    · have h := hF10 c
      refine xr_iconst dX3_isSpelled_38 ?_
      exact xr_zret dX3_isSpelled_39 rfl (x_nz (by decide)).1 ⟨rfl, _, rfl, x_01 (by decide), h⟩
theorem dX11_isSmallLetter_0 : decode cX11_isSmallLetter 0 = .ok (.iload_n 0, 1) := by decide +kernel
theorem dX11_isSmallLetter_1 : decode cX11_isSmallLetter 1 = .ok (.bipush 97, 2) := by decide +kernel
theorem dX11_isSmallLetter_3 : decode cX11_isSmallLetter 3 = .ok (.if_icmp .lt 13, 3) := by decide +kernel
theorem dX11_isSmallLetter_6 : decode cX11_isSmallLetter 6 = .ok (.iload_n 0, 1) := by decide +kernel
theorem dX11_isSmallLetter_7 : decode cX11_isSmallLetter 7 = .ok (.bipush 122, 2) := by decide +kernel
theorem dX11_isSmallLetter_9 : decode cX11_isSmallLetter 9 = .ok (.if_icmp .gt 7, 3) := by decide +kernel
theorem dX11_isSmallLetter_12 : decode cX11_isSmallLetter 12 = .ok (.iconst 1, 1) := by decide +kernel
theorem dX11_isSmallLetter_13 : decode cX11_isSmallLetter 13 = .ok (.goto 4, 3) := by decide +kernel
theorem dX11_isSmallLetter_16 : decode cX11_isSmallLetter 16 = .ok (.iconst 0, 1) := by decide +kernel
theorem dX11_isSmallLetter_17 : decode cX11_isSmallLetter 17 = .ok (.ireturn, 1) := by decide +kernel
set_option maxRecDepth 20000 in
theorem E_X11_isSmallLetter {G : xG} {l : Launch} {d : Nat} {P : Int → xMem → Prop} {v0 : Int} {μ : xMem} (h : (iR v0 ∧ (v0 < 97 → P 0 μ) ∧ (97 ≤ v0 → ((122 < v0 → P 0 μ) ∧ (v0 ≤ 122 → P 1 μ))))) : CI G l (d + 1) mX11_isSmallLetter [xi v0] μ P := by
  refine CC.ofRR (ll := [some (xi v0)]) (by decide +kernel) (Nat.le_of_ble_eq_true rfl) rfl (fun h => by cases h) ?_
  refine xr_iload_n dX11_isSmallLetter_0 rfl ?_
  refine xr_bipush dX11_isSmallLetter_1 (by decide) ?_
  obtain ⟨q1, hT2, hF3⟩ := h
  refine xr_icmp_lt (tgt := 16) dX11_isSmallLetter_3 (by decide) q1 (by decide) (fun c => ?_) (fun c => ?_)
  · have h := hT2 c
    refine xr_iconst dX11_isSmallLetter_16 ?_
    exact xr_zret dX11_isSmallLetter_17 rfl (x_nz (by decide)).1 ⟨rfl, _, rfl, x_01 (by decide), h⟩
  · have h := hF3 (Int.not_lt.mp c)
    refine xr_iload_n dX11_isSmallLetter_6 rfl ?_
    refine xr_bipush dX11_isSmallLetter_7 (by decide) ?_
    obtain ⟨hT4, hF5⟩ := h
    refine xr_icmp_gt (tgt := 16) dX11_isSmallLetter_9 (by decide) q1 (by decide) (fun c => ?_) (fun c => ?_)
    · have h := hT4 c
      refine xr_iconst dX11_isSmallLetter_16 ?_
      exact xr_zret dX11_isSmallLetter_17 rfl (x_nz (by decide)).1 ⟨rfl, _, rfl, x_01 (by decide), h⟩
    · have h := hF5 (Int.not_lt.mp c)
      refine xr_iconst dX11_isSmallLetter_12 ?_
      refine xr_goto (tgt := 17) dX11_isSmallLetter_13 (by decide) ?_
      exact xr_zret dX11_isSmallLetter_17 rfl (x_nz (by decide)).1 ⟨rfl, _, rfl, x_01 (by decide), h⟩
end Blk21_bX3
