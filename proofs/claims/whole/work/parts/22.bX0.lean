/-! blocks of the class's code, printed by program -/
section Blk22_bX0
set_option maxRecDepth 20000 in
theorem E_X0_isTold {G : xG} {l : Launch} {d : Nat} {P : Int → xMem → Prop} {v1 : Int} {μ : xMem} (h : (iR v1 ∧ (v1 < 0 → P 0 μ) ∧ (0 ≤ v1 → ((16 ≤ v1 → P 0 μ) ∧ (v1 < 16 → ((0 ≤ v1 ∧ v1 < 16) ∧ (iR (μ 25 v1) ∧ ((μ 25 v1) ≤ 0 → P 0 μ) ∧ (0 < (μ 25 v1) → P 1 μ)))))))) : CI G l (d + 1) mX0_isTold [xr G 19, xi v1] μ P := by
  refine CC.ofRR (ll := [some (xr G 19), some (xi v1)]) (by decide +kernel) (Nat.le_of_ble_eq_true rfl) rfl (fun h => by cases h) ?_
  refine xr_iload_n dX0_isTold_0 rfl ?_
  obtain ⟨q1, hT2, hF3⟩ := h
  refine xr_if_lt (tgt := 23) dX0_isTold_1 (by decide) q1  (fun c => ?_) (fun c => ?_)
  · have h := hT2 c
    refine xr_iconst dX0_isTold_23 ?_
    exact xr_zret dX0_isTold_24 rfl (x_nz (by decide)).1 ⟨rfl, _, rfl, x_01 (by decide), h⟩
  · have h := hF3 (Int.not_lt.mp c)
    refine xr_iload_n dX0_isTold_4 rfl ?_
    refine xr_bipush dX0_isTold_5 (by decide) ?_
    obtain ⟨hT4, hF5⟩ := h
    refine xr_icmp_ge (tgt := 23) dX0_isTold_7 (by decide) q1 (by decide) (fun c => ?_) (fun c => ?_)
    · have h := hT4 c
      refine xr_iconst dX0_isTold_23 ?_
      exact xr_zret dX0_isTold_24 rfl (x_nz (by decide)).1 ⟨rfl, _, rfl, x_01 (by decide), h⟩
    · have h := hF5 (Int.not_le.mp c)
      refine xr_aload_n dX0_isTold_10 rfl ?_
      refine xr_getR dX0_isTold_11 fl_X0_27 L_19 rfl ?_
      refine xr_iload_n dX0_isTold_14 rfl ?_
      obtain ⟨q6, h⟩ := h
      refine xr_iaload' (v := μ 25 v1) dX0_isTold_15 L_25 rfl (by decide) q6 rfl ?_
      obtain ⟨q7, hT8, hF9⟩ := h
      refine xr_if_le (tgt := 23) dX0_isTold_16 (by decide) q7  (fun c => ?_) (fun c => ?_)
      · have h := hT8 c
        refine xr_iconst dX0_isTold_23 ?_
        exact xr_zret dX0_isTold_24 rfl (x_nz (by decide)).1 ⟨rfl, _, rfl, x_01 (by decide), h⟩
      · have h := hF9 (Int.not_le.mp c)
        refine xr_iconst dX0_isTold_19 ?_
        refine xr_goto (tgt := 24) dX0_isTold_20 (by decide) ?_
        exact xr_zret dX0_isTold_24 rfl (x_nz (by decide)).1 ⟨rfl, _, rfl, x_01 (by decide), h⟩
def K_X0_tell_67 (G : xG) (l : Launch) (d : Nat) (P : Int → xMem → Prop) (k3 : Nat) (n3 : Nat) (v1 v2 v4 v5 : Int) (μ : xMem) : Prop := RR G l d 0 0 false mX0_tell (qI P) 67 [some (xr G 19), some (xi v1), some (xi v2), some (xr G k3), some (xi v4), some (xi v5), none] [] LAY μ 0 0
def K_X0_tell_86 (G : xG) (l : Launch) (d : Nat) (P : Int → xMem → Prop) (k3 : Nat) (n3 : Nat) (v1 v2 v4 v5 : Int) (μ : xMem) : Prop := RR G l d 0 0 false mX0_tell (qI P) 86 [some (xr G 19), some (xi v1), some (xi v2), some (xr G k3), some (xi v4), some (xi v5), none] [] LAY μ 0 0
set_option maxRecDepth 20000 in
theorem E_X0_tell {G : xG} {l : Launch} {d : Nat} {P : Int → xMem → Prop} {k3 : Nat} {n3 : Nat} (hk3 : LAY[k3]? = some (.inl (0, n3))) (hn3 : n3 < 2147483648) {v1 v2 v4 v5 : Int} {μ : xMem} (h : (iR v1 ∧ (v1 < 0 → P (-1) μ) ∧ (0 ≤ v1 → ((16 ≤ v1 → P (-1) μ) ∧ (v1 < 16 → (iR v2 ∧ (v2 < 1 → P (-1) μ) ∧ (1 ≤ v2 → ((10 < v2 → P (-1) μ) ∧ (v2 ≤ 10 → CI G l d mX4_isFull [xr G 20] μ (fun r11 m12 => ((r11 = 0 → (iR v4 ∧ (v4 < 2 → P (-1) m12) ∧ (2 ≤ v4 → ((8 < v4 → P (-1) m12) ∧ (v4 ≤ 8 → ((0 ≤ v1 ∧ v1 < 16) ∧ (iR (m12 25 v1) ∧ ((m12 25 v1) ≤ 0 → K_X0_tell_67 G l (d + 1) P k3 n3 v1 v2 v4 v5 m12) ∧ (0 < (m12 25 v1) → (((m12 25 v1) = v2 → K_X0_tell_67 G l (d + 1) P k3 n3 v1 v2 v4 v5 m12) ∧ ((m12 25 v1) ≠ v2 → P (-1) m12)))))))))) ∧ (r11 ≠ 0 → P (-1) m12)))))))))))) : CI G l (d + 1) mX0_tell [xr G 19, xi v1, xi v2, xr G k3, xi v4, xi v5] μ P := by
  refine CC.ofRR (ll := [some (xr G 19), some (xi v1), some (xi v2), some (xr G k3), some (xi v4), some (xi v5), none]) (by decide +kernel) (Nat.le_of_ble_eq_true rfl) rfl (fun h => by cases h) ?_
  refine xr_iload_n dX0_tell_0 rfl ?_
  obtain ⟨q1, hT2, hF3⟩ := h
  refine xr_if_lt (tgt := 31) dX0_tell_1 (by decide) q1  (fun c => ?_) (fun c => ?_)
  · have h := hT2 c
    refine xr_iconst dX0_tell_31 ?_
    exact xr_iret dX0_tell_32 rfl ⟨rfl, _, rfl, (by decide), h⟩
  · have h := hF3 (Int.not_lt.mp c)
    refine xr_iload_n dX0_tell_4 rfl ?_
    refine xr_bipush dX0_tell_5 (by decide) ?_
    obtain ⟨hT4, hF5⟩ := h
    refine xr_icmp_ge (tgt := 31) dX0_tell_7 (by decide) q1 (by decide) (fun c => ?_) (fun c => ?_)
    · have h := hT4 c
      refine xr_iconst dX0_tell_31 ?_
      exact xr_iret dX0_tell_32 rfl ⟨rfl, _, rfl, (by decide), h⟩
    · have h := hF5 (Int.not_le.mp c)
      refine xr_iload_n dX0_tell_10 rfl ?_
      refine xr_iconst dX0_tell_11 ?_
      obtain ⟨q6, hT7, hF8⟩ := h
      refine xr_icmp_lt (tgt := 31) dX0_tell_12 (by decide) q6 (by decide) (fun c => ?_) (fun c => ?_)
      · have h := hT7 c
        refine xr_iconst dX0_tell_31 ?_
        exact xr_iret dX0_tell_32 rfl ⟨rfl, _, rfl, (by decide), h⟩
      · have h := hF8 (Int.not_lt.mp c)
        refine xr_iload_n dX0_tell_15 rfl ?_
        refine xr_bipush dX0_tell_16 (by decide) ?_
        obtain ⟨hT9, hF10⟩ := h
        refine xr_icmp_gt (tgt := 31) dX0_tell_18 (by decide) q6 (by decide) (fun c => ?_) (fun c => ?_)
        · have h := hT9 c
          refine xr_iconst dX0_tell_31 ?_
          exact xr_iret dX0_tell_32 rfl ⟨rfl, _, rfl, (by decide), h⟩
        · have h := hF10 (Int.not_lt.mp c)
          refine xr_aload_n dX0_tell_21 rfl ?_
          refine xr_getR dX0_tell_22 fl_X0_14 L_19 rfl ?_
          refine xr_cvI (As := []) dX0_tell_25 mi_X4_isFull ml_X0_30 se_X4_isFull L_20 rfl rfl rfl (Nat.le_of_ble_eq_true rfl) h (fun r11 m12 hr11 h => ?_)
          obtain ⟨hT13, hF14⟩ := h
          refine xr_if_eq (tgt := 33) dX0_tell_28 (by decide) hr11  (fun c => ?_) (fun c => ?_)
          · have h := hT13 c
            refine xr_iload dX0_tell_33 rfl ?_
            refine xr_iconst dX0_tell_35 ?_
            obtain ⟨q15, hT16, hF17⟩ := h
            refine xr_icmp_lt (tgt := 65) dX0_tell_36 (by decide) q15 (by decide) (fun c => ?_) (fun c => ?_)
            · have h := hT16 c
              refine xr_iconst dX0_tell_65 ?_
              exact xr_iret dX0_tell_66 rfl ⟨rfl, _, rfl, (by decide), h⟩
            · have h := hF17 (Int.not_lt.mp c)
              refine xr_iload dX0_tell_39 rfl ?_
              refine xr_bipush dX0_tell_41 (by decide) ?_
              obtain ⟨hT18, hF19⟩ := h
              refine xr_icmp_gt (tgt := 65) dX0_tell_43 (by decide) q15 (by decide) (fun c => ?_) (fun c => ?_)
              · have h := hT18 c
                refine xr_iconst dX0_tell_65 ?_
                exact xr_iret dX0_tell_66 rfl ⟨rfl, _, rfl, (by decide), h⟩
              · have h := hF19 (Int.not_lt.mp c)
                refine xr_aload_n dX0_tell_46 rfl ?_
                refine xr_getR dX0_tell_47 fl_X0_27 L_19 rfl ?_
                refine xr_iload_n dX0_tell_50 rfl ?_
                obtain ⟨q20, h⟩ := h
                refine xr_iaload' (v := m12 25 v1) dX0_tell_51 L_25 rfl (by decide) q20 rfl ?_
                obtain ⟨q21, hT22, hF23⟩ := h
                refine xr_if_le (tgt := 67) dX0_tell_52 (by decide) q21  (fun c => ?_) (fun c => ?_)
                · have h := hT22 c
                  exact h
                · have h := hF23 (Int.not_le.mp c)
                  refine xr_aload_n dX0_tell_55 rfl ?_
                  refine xr_getR dX0_tell_56 fl_X0_27 L_19 rfl ?_
                  refine xr_iload_n dX0_tell_59 rfl ?_
                  refine xr_iaload' (v := m12 25 v1) dX0_tell_60 L_25 rfl (by decide) q20 rfl ?_
                  refine xr_iload_n dX0_tell_61 rfl ?_
                  obtain ⟨hT24, hF25⟩ := h
                  refine xr_icmp_eq (tgt := 67) dX0_tell_62 (by decide) q21 q6 (fun c => ?_) (fun c => ?_)
                  · have h := hT24 c
                    exact h
                  · have h := hF25 c
                    refine xr_iconst dX0_tell_65 ?_
                    exact xr_iret dX0_tell_66 rfl ⟨rfl, _, rfl, (by decide), h⟩
          · have h := hF14 c
            refine xr_iconst dX0_tell_31 ?_
            exact xr_iret dX0_tell_32 rfl ⟨rfl, _, rfl, (by decide), h⟩
set_option maxRecDepth 20000 in
theorem B_X0_tell_67 {G : xG} {l : Launch} {d : Nat} {P : Int → xMem → Prop} {k3 : Nat} {n3 : Nat} (hk3 : LAY[k3]? = some (.inl (0, n3))) (hn3 : n3 < 2147483648) {v1 v2 v4 v5 : Int} {μ : xMem} (h : ((0 ≤ v1 ∧ v1 < 16) ∧ (iR (μ 25 v1) ∧ ((μ 25 v1) ≠ 0 → K_X0_tell_86 G l (d + 1) P k3 n3 v1 v2 v4 v5 μ) ∧ ((μ 25 v1) = 0 → K_X0_tell_86 G l (d + 1) P k3 n3 v1 v2 v4 v5 (st2 μ 19 4 ((μ 19 4) + 1)))))) : K_X0_tell_67 G l (d + 1) P k3 n3 v1 v2 v4 v5 μ := by
  unfold K_X0_tell_67
  refine xr_aload_n dX0_tell_67 rfl ?_
  refine xr_getR dX0_tell_68 fl_X0_27 L_19 rfl ?_
  refine xr_iload_n dX0_tell_71 rfl ?_
  obtain ⟨q1, h⟩ := h
  refine xr_iaload' (v := μ 25 v1) dX0_tell_72 L_25 rfl (by decide) q1 rfl ?_
  obtain ⟨q2, hT3, hF4⟩ := h
  refine xr_if_ne (tgt := 86) dX0_tell_73 (by decide) q2  (fun c => ?_) (fun c => ?_)
  · have h := hT3 c
    exact h
  · have h := hF4 c
    refine xr_aload_n dX0_tell_76 rfl ?_
    refine xr_dup dX0_tell_77 rfl ?_
    refine xr_getI' (v := μ 19 4) dX0_tell_78 fl_X0_34 L_19 rfl rfl rfl ?_
    refine xr_iconst dX0_tell_81 ?_
    refine xr_iadd dX0_tell_82 ?_
    refine xr_putI dX0_tell_83 fp_X0_34 L_19 rfl rfl ⟨rfl, rfl⟩ ?_
    exact h
set_option maxRecDepth 20000 in
theorem B_X0_tell_86 {G : xG} {l : Launch} {d : Nat} {P : Int → xMem → Prop} {k3 : Nat} {n3 : Nat} (hk3 : LAY[k3]? = some (.inl (0, n3))) (hn3 : n3 < 2147483648) {v1 v2 v4 v5 : Int} {μ : xMem} (h : ((0 ≤ v1 ∧ v1 < 16) ∧ CI G l d mX4_add [xr G 20, xi v1, xi v5] (st2 μ 25 v1 v2) (fun r2 m3 => ((0 ≤ r2 ∧ r2 < 60) ∧ ((0 ≤ r2 * 8) ∧ (0 ≤ v4) ∧ (0 + v4 ≤ (n3 : Int)) ∧ (r2 * 8 + v4 ≤ 480) ∧ (iR v4 ∧ P v4 (cpy (st2 m3 24 r2 v4) k3 0 23 (r2 * 8) v4))))))) : K_X0_tell_86 G l (d + 1) P k3 n3 v1 v2 v4 v5 μ := by
  unfold K_X0_tell_86
  refine xr_aload_n dX0_tell_86 rfl ?_
  refine xr_getR dX0_tell_87 fl_X0_27 L_19 rfl ?_
  refine xr_iload_n dX0_tell_90 rfl ?_
  refine xr_iload_n dX0_tell_91 rfl ?_
  obtain ⟨q1, h⟩ := h
  refine xr_iastore dX0_tell_92 L_25 rfl (by decide) q1 ?_
  refine xr_aload_n dX0_tell_93 rfl ?_
  refine xr_getR dX0_tell_94 fl_X0_14 L_19 rfl ?_
  refine xr_iload_n dX0_tell_97 rfl ?_
  refine xr_iload dX0_tell_98 rfl ?_
  refine xr_cvI (As := [xi v1, xi v5]) dX0_tell_100 mi_X4_add ml_X0_38 se_X4_add L_20 rfl rfl rfl (Nat.le_of_ble_eq_true rfl) h (fun r2 m3 hr2 h => ?_)
  refine xr_istore' (ll' := [some (xr G 19), some (xi v1), some (xi v2), some (xr G k3), some (xi v4), some (xi v5), some (xi r2)]) dX0_tell_103 (by decide) rfl rfl ?_
  refine xr_aload_n dX0_tell_105 rfl ?_
  refine xr_getR dX0_tell_106 fl_X0_24 L_19 rfl ?_
  refine xr_iload dX0_tell_109 rfl ?_
  refine xr_iload dX0_tell_111 rfl ?_
  obtain ⟨q4, h⟩ := h
  refine xr_iastore dX0_tell_113 L_24 rfl (by decide) q4 ?_
  refine xr_aload_n dX0_tell_114 rfl ?_
  refine xr_iconst dX0_tell_115 ?_
  refine xr_aload_n dX0_tell_116 rfl ?_
  refine xr_getR dX0_tell_117 fl_X0_20 L_19 rfl ?_
  refine xr_iload dX0_tell_120 rfl ?_
  refine xr_bipush dX0_tell_122 (by decide) ?_
  refine xr_imul dX0_tell_124 ?_
  refine xr_iload dX0_tell_125 rfl ?_
  obtain ⟨q5, q6, q7, q8, h⟩ := h
  refine xr_copyI dX0_tell_127 ml_X0_42 w_acn w_acs w_aci (Nat.le_add_left _ _) (Nat.le_of_ble_eq_true rfl) hk3 L_23 hn3 (by decide) (by decide) q5 q6 q7 q8 ?_ rfl
  refine xr_iload dX0_tell_130 rfl ?_
  obtain ⟨q9, h⟩ := h
  exact xr_iret dX0_tell_132 rfl ⟨rfl, _, rfl, q9, h⟩
set_option maxRecDepth 20000 in
theorem E_X0_tellingOf {G : xG} {l : Launch} {d : Nat} {P : Int → xMem → Prop} {v1 v2 : Int} {μ : xMem} (h : CI G l d mX0_isTold [xr G 19, xi v1] μ (fun r1 m2 => ((r1 = 0 → P (-1) m2) ∧ (r1 ≠ 0 → CI G l d mX4_latest [xr G 20, xi v1, xi v2] m2 (fun r5 m6 => P r5 m6))))) : CI G l (d + 1) mX0_tellingOf [xr G 19, xi v1, xi v2] μ P := by
  refine CC.ofRR (ll := [some (xr G 19), some (xi v1), some (xi v2)]) (by decide +kernel) (Nat.le_of_ble_eq_true rfl) rfl (fun h => by cases h) ?_
  refine xr_aload_n dX0_tellingOf_0 rfl ?_
  refine xr_iload_n dX0_tellingOf_1 rfl ?_
  refine xr_cvI (As := [xi v1]) dX0_tellingOf_2 mi_X0_isTold ml_X0_48 se_X0_isTold L_19 rfl rfl rfl (Nat.le_of_ble_eq_true rfl) h (fun r1 m2 hr1 h => ?_)
  obtain ⟨hT3, hF4⟩ := h
  refine xr_if_eq (tgt := 20) dX0_tellingOf_5 (by decide) hr1  (fun c => ?_) (fun c => ?_)
  · have h := hT3 c
    refine xr_iconst dX0_tellingOf_20 ?_
    exact xr_iret dX0_tellingOf_21 rfl ⟨rfl, _, rfl, (by decide), h⟩
  · have h := hF4 c
    refine xr_aload_n dX0_tellingOf_8 rfl ?_
    refine xr_getR dX0_tellingOf_9 fl_X0_14 L_19 rfl ?_
    refine xr_iload_n dX0_tellingOf_12 rfl ?_
    refine xr_iload_n dX0_tellingOf_13 rfl ?_
    refine xr_cvI (As := [xi v1, xi v2]) dX0_tellingOf_14 mi_X4_latest ml_X0_52 se_X4_latest L_20 rfl rfl rfl (Nat.le_of_ble_eq_true rfl) h (fun r5 m6 hr5 h => ?_)
    refine xr_goto (tgt := 21) dX0_tellingOf_17 (by decide) ?_
    exact xr_iret dX0_tellingOf_21 rfl ⟨rfl, _, rfl, hr5, h⟩
end Blk22_bX0
