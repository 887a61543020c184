/-! blocks of the class's code, printed by program -/
section Blk34_bX12e
theorem dX12_fits_0 : decode cX12_fits 0 = .ok (.aload_n 0, 1) := by decide +kernel
theorem dX12_fits_1 : decode cX12_fits 1 = .ok (.getfield 155, 3) := by decide +kernel
theorem dX12_fits_4 : decode cX12_fits 4 = .ok (.iload_n 1, 1) := by decide +kernel
theorem dX12_fits_5 : decode cX12_fits 5 = .ok (.iaload, 1) := by decide +kernel
theorem dX12_fits_6 : decode cX12_fits 6 = .ok (.istore_n 3, 1) := by decide +kernel
theorem dX12_fits_7 : decode cX12_fits 7 = .ok (.iconst 0, 1) := by decide +kernel
theorem dX12_fits_8 : decode cX12_fits 8 = .ok (.istore 4, 2) := by decide +kernel
theorem dX12_fits_10 : decode cX12_fits 10 = .ok (.iload 4, 2) := by decide +kernel
theorem dX12_fits_12 : decode cX12_fits 12 = .ok (.aload_n 0, 1) := by decide +kernel
theorem dX12_fits_13 : decode cX12_fits 13 = .ok (.getfield 53, 3) := by decide +kernel
theorem dX12_fits_16 : decode cX12_fits 16 = .ok (.iload_n 3, 1) := by decide +kernel
theorem dX12_fits_17 : decode cX12_fits 17 = .ok (.iaload, 1) := by decide +kernel
theorem dX12_fits_18 : decode cX12_fits 18 = .ok (.if_icmp .ge 90, 3) := by decide +kernel
theorem dX12_fits_21 : decode cX12_fits 21 = .ok (.aload_n 0, 1) := by decide +kernel
theorem dX12_fits_22 : decode cX12_fits 22 = .ok (.iload_n 3, 1) := by decide +kernel
theorem dX12_fits_23 : decode cX12_fits 23 = .ok (.iload 4, 2) := by decide +kernel
theorem dX12_fits_25 : decode cX12_fits 25 = .ok (.invokevirtual 391, 3) := by decide +kernel
theorem dX12_fits_28 : decode cX12_fits 28 = .ok (.istore 5, 2) := by decide +kernel
theorem dX12_fits_30 : decode cX12_fits 30 = .ok (.aload_n 0, 1) := by decide +kernel
theorem dX12_fits_31 : decode cX12_fits 31 = .ok (.iload_n 3, 1) := by decide +kernel
theorem dX12_fits_32 : decode cX12_fits 32 = .ok (.iload 5, 2) := by decide +kernel
theorem dX12_fits_34 : decode cX12_fits 34 = .ok (.invokevirtual 409, 3) := by decide +kernel
theorem dX12_fits_37 : decode cX12_fits 37 = .ok (.istore 6, 2) := by decide +kernel
theorem dX12_fits_39 : decode cX12_fits 39 = .ok (.iconst 0, 1) := by decide +kernel
theorem dX12_fits_40 : decode cX12_fits 40 = .ok (.istore 7, 2) := by decide +kernel
theorem dX12_fits_42 : decode cX12_fits 42 = .ok (.iload 7, 2) := by decide +kernel
theorem dX12_fits_44 : decode cX12_fits 44 = .ok (.iload_n 1, 1) := by decide +kernel
theorem dX12_fits_45 : decode cX12_fits 45 = .ok (.if_icmp .ge 57, 3) := by decide +kernel
theorem dX12_fits_48 : decode cX12_fits 48 = .ok (.iload 6, 2) := by decide +kernel
theorem dX12_fits_50 : decode cX12_fits 50 = .ok (.ifCond .lt 52, 3) := by decide +kernel
theorem dX12_fits_53 : decode cX12_fits 53 = .ok (.aload_n 0, 1) := by decide +kernel
theorem dX12_fits_54 : decode cX12_fits 54 = .ok (.getfield 155, 3) := by decide +kernel
theorem dX12_fits_57 : decode cX12_fits 57 = .ok (.iload 7, 2) := by decide +kernel
theorem dX12_fits_59 : decode cX12_fits 59 = .ok (.iaload, 1) := by decide +kernel
theorem dX12_fits_60 : decode cX12_fits 60 = .ok (.iload 6, 2) := by decide +kernel
theorem dX12_fits_62 : decode cX12_fits 62 = .ok (.if_icmp .ne 34, 3) := by decide +kernel
theorem dX12_fits_65 : decode cX12_fits 65 = .ok (.aload_n 0, 1) := by decide +kernel
theorem dX12_fits_66 : decode cX12_fits 66 = .ok (.aload_n 0, 1) := by decide +kernel
theorem dX12_fits_67 : decode cX12_fits 67 = .ok (.getfield 158, 3) := by decide +kernel
theorem dX12_fits_70 : decode cX12_fits 70 = .ok (.iload 7, 2) := by decide +kernel
theorem dX12_fits_72 : decode cX12_fits 72 = .ok (.iaload, 1) := by decide +kernel
theorem dX12_fits_73 : decode cX12_fits 73 = .ok (.aload_n 0, 1) := by decide +kernel
theorem dX12_fits_74 : decode cX12_fits 74 = .ok (.iload 6, 2) := by decide +kernel
theorem dX12_fits_76 : decode cX12_fits 76 = .ok (.iload 5, 2) := by decide +kernel
theorem dX12_fits_78 : decode cX12_fits 78 = .ok (.invokevirtual 412, 3) := by decide +kernel
theorem dX12_fits_81 : decode cX12_fits 81 = .ok (.invokevirtual 406, 3) := by decide +kernel
theorem dX12_fits_84 : decode cX12_fits 84 = .ok (.aload_n 0, 1) := by decide +kernel
theorem dX12_fits_85 : decode cX12_fits 85 = .ok (.iload_n 2, 1) := by decide +kernel
theorem dX12_fits_86 : decode cX12_fits 86 = .ok (.iload 4, 2) := by decide +kernel
theorem dX12_fits_88 : decode cX12_fits 88 = .ok (.invokevirtual 406, 3) := by decide +kernel
theorem dX12_fits_91 : decode cX12_fits 91 = .ok (.if_icmp .eq 5, 3) := by decide +kernel
theorem dX12_fits_94 : decode cX12_fits 94 = .ok (.iconst 0, 1) := by decide +kernel
theorem dX12_fits_95 : decode cX12_fits 95 = .ok (.ireturn, 1) := by decide +kernel
theorem dX12_fits_96 : decode cX12_fits 96 = .ok (.iinc 7 1, 3) := by decide +kernel
theorem dX12_fits_99 : decode cX12_fits 99 = .ok (.goto (-57), 3) := by decide +kernel
theorem dX12_fits_102 : decode cX12_fits 102 = .ok (.iinc 4 1, 3) := by decide +kernel
theorem dX12_fits_105 : decode cX12_fits 105 = .ok (.goto (-95), 3) := by decide +kernel
theorem dX12_fits_108 : decode cX12_fits 108 = .ok (.iconst 1, 1) := by decide +kernel
theorem dX12_fits_109 : decode cX12_fits 109 = .ok (.ireturn, 1) := by decide +kernel
def K_X12_fits_10 (G : xG) (l : Launch) (d : Nat) (P : Int → xMem → Prop) (v1 v2 v3 v4 : Int) (μ : xMem) : Prop := RR G l d 0 0 false mX12_fits (qI P) 10 [some (xr G 74), some (xi v1), some (xi v2), some (xi v3), some (xi v4), none, none, none] [] LAY μ 0 0
def K_X12_fits_42 (G : xG) (l : Launch) (d : Nat) (P : Int → xMem → Prop) (v1 v2 v3 v4 v5 v6 v7 : Int) (μ : xMem) : Prop := RR G l d 0 0 false mX12_fits (qI P) 42 [some (xr G 74), some (xi v1), some (xi v2), some (xi v3), some (xi v4), some (xi v5), some (xi v6), some (xi v7)] [] LAY μ 0 0
set_option maxRecDepth 20000 in
theorem E_X12_fits {G : xG} {l : Launch} {d : Nat} {P : Int → xMem → Prop} {v1 v2 : Int} {μ : xMem} (h : ((0 ≤ v1 ∧ v1 < 16) ∧ K_X12_fits_10 G l (d + 1) P v1 v2 (μ 120 v1) 0 μ)) : CI G l (d + 1) mX12_fits [xr G 74, xi v1, xi v2] μ P := by
  refine CC.ofRR (ll := [some (xr G 74), some (xi v1), some (xi v2), none, none, none, none, none]) (by decide +kernel) (Nat.le_of_ble_eq_true rfl) rfl (fun h => by cases h) ?_
  refine xr_aload_n dX12_fits_0 rfl ?_
  refine xr_getR dX12_fits_1 fl_X12_155 L_74 rfl ?_
  refine xr_iload_n dX12_fits_4 rfl ?_
  obtain ⟨q1, h⟩ := h
  refine xr_iaload' (v := μ 120 v1) dX12_fits_5 L_120 rfl (by decide) q1 rfl ?_
  refine xr_istore_n' (ll' := [some (xr G 74), some (xi v1), some (xi v2), some (xi (μ 120 v1)), none, none, none, none]) dX12_fits_6 (by decide) rfl rfl ?_
  refine xr_iconst dX12_fits_7 ?_
  refine xr_istore' (ll' := [some (xr G 74), some (xi v1), some (xi v2), some (xi (μ 120 v1)), some (xi 0), none, none, none]) dX12_fits_8 (by decide) rfl rfl ?_
  exact h
set_option maxRecDepth 20000 in
theorem B_X12_fits_10 {G : xG} {l : Launch} {d : Nat} {P : Int → xMem → Prop} {v1 v2 v3 v4 : Int} {μ : xMem} (h : ((0 ≤ v3 ∧ v3 < 16) ∧ (iR v4 ∧ iR (μ 89 v3) ∧ ((μ 89 v3) ≤ v4 → P 1 μ) ∧ (v4 < (μ 89 v3) → CI G l d mX12_cellOf [xr G 74, xi v3, xi v4] μ (fun r6 m7 => CI G l d mX12_other [xr G 74, xi v3, xi r6] m7 (fun r8 m9 => K_X12_fits_42 G l (d + 1) P v1 v2 v3 v4 r6 r8 0 m9)))))) : K_X12_fits_10 G l (d + 1) P v1 v2 v3 v4 μ := by
  unfold K_X12_fits_10
  refine xr_iload dX12_fits_10 rfl ?_
  refine xr_aload_n dX12_fits_12 rfl ?_
  refine xr_getR dX12_fits_13 fl_X12_53 L_74 rfl ?_
  refine xr_iload_n dX12_fits_16 rfl ?_
  obtain ⟨q1, h⟩ := h
  refine xr_iaload' (v := μ 89 v3) dX12_fits_17 L_89 rfl (by decide) q1 rfl ?_
  obtain ⟨q2, q3, hT4, hF5⟩ := h
  refine xr_icmp_ge (tgt := 108) dX12_fits_18 (by decide) q2 q3 (fun c => ?_) (fun c => ?_)
  · have h := hT4 c
    refine xr_iconst dX12_fits_108 ?_
    exact xr_zret dX12_fits_109 rfl (x_nz (by decide)).1 ⟨rfl, _, rfl, x_01 (by decide), h⟩
  · have h := hF5 (Int.not_le.mp c)
    refine xr_aload_n dX12_fits_21 rfl ?_
    refine xr_iload_n dX12_fits_22 rfl ?_
    refine xr_iload dX12_fits_23 rfl ?_
    refine xr_cvI (As := [xi v3, xi v4]) dX12_fits_25 mi_X12_cellOf ml_X12_391 se_X12_cellOf L_74 rfl rfl rfl (Nat.le_of_ble_eq_true rfl) h (fun r6 m7 hr6 h => ?_)
    refine xr_istore' (ll' := [some (xr G 74), some (xi v1), some (xi v2), some (xi v3), some (xi v4), some (xi r6), none, none]) dX12_fits_28 (by decide) rfl rfl ?_
    refine xr_aload_n dX12_fits_30 rfl ?_
    refine xr_iload_n dX12_fits_31 rfl ?_
    refine xr_iload dX12_fits_32 rfl ?_
    refine xr_cvI (As := [xi v3, xi r6]) dX12_fits_34 mi_X12_other ml_X12_409 se_X12_other L_74 rfl rfl rfl (Nat.le_of_ble_eq_true rfl) h (fun r8 m9 hr8 h => ?_)
    refine xr_istore' (ll' := [some (xr G 74), some (xi v1), some (xi v2), some (xi v3), some (xi v4), some (xi r6), some (xi r8), none]) dX12_fits_37 (by decide) rfl rfl ?_
    refine xr_iconst dX12_fits_39 ?_
    refine xr_istore' (ll' := [some (xr G 74), some (xi v1), some (xi v2), some (xi v3), some (xi v4), some (xi r6), some (xi r8), some (xi 0)]) dX12_fits_40 (by decide) rfl rfl ?_
    exact h
set_option maxRecDepth 20000 in
theorem B_X12_fits_42 {G : xG} {l : Launch} {d : Nat} {P : Int → xMem → Prop} {v1 v2 v3 v4 v5 v6 v7 : Int} {μ : xMem} (h : (iR v7 ∧ iR v1 ∧ (v1 ≤ v7 → K_X12_fits_10 G l (d + 1) P v1 v2 v3 (v4 + 1) μ) ∧ (v7 < v1 → (iR v6 ∧ (v6 < 0 → K_X12_fits_10 G l (d + 1) P v1 v2 v3 (v4 + 1) μ) ∧ (0 ≤ v6 → ((0 ≤ v7 ∧ v7 < 16) ∧ (iR (μ 120 v7) ∧ ((μ 120 v7) ≠ v6 → K_X12_fits_42 G l (d + 1) P v1 v2 v3 v4 v5 v6 (v7 + 1) μ) ∧ ((μ 120 v7) = v6 → CI G l d mX12_placeIn [xr G 74, xi v6, xi v5] μ (fun r12 m13 => CI G l d mX12_letterOf [xr G 74, xi (μ 121 v7), xi r12] m13 (fun r14 m15 => CI G l d mX12_letterOf [xr G 74, xi v2, xi v4] m15 (fun r16 m17 => ((r14 = r16 → K_X12_fits_42 G l (d + 1) P v1 v2 v3 v4 v5 v6 (v7 + 1) m17) ∧ (r14 ≠ r16 → P 0 m17))))))))))))) : K_X12_fits_42 G l (d + 1) P v1 v2 v3 v4 v5 v6 v7 μ := by
  unfold K_X12_fits_42
  refine xr_iload dX12_fits_42 rfl ?_
  refine xr_iload_n dX12_fits_44 rfl ?_
  obtain ⟨q1, q2, hT3, hF4⟩ := h
  refine xr_icmp_ge (tgt := 102) dX12_fits_45 (by decide) q1 q2 (fun c => ?_) (fun c => ?_)
  · have h := hT3 c
    refine xr_iinc' (ll' := [some (xr G 74), some (xi v1), some (xi v2), some (xi v3), some (xi (v4 + 1)), some (xi v5), some (xi v6), some (xi v7)]) dX12_fits_102 rfl (by decide) rfl rfl ?_
    refine xr_goto (tgt := 10) dX12_fits_105 (by decide) ?_
    refine xr_wk (ll' := [some (xr G 74), some (xi v1), some (xi v2), some (xi v3), some (xi (v4 + 1)), none, none, none]) ⟨rfl, ⟨rfl, ⟨rfl, ⟨rfl, ⟨rfl, trivial⟩⟩⟩⟩⟩ ?_
    exact h
  · have h := hF4 (Int.not_le.mp c)
    refine xr_iload dX12_fits_48 rfl ?_
    obtain ⟨q5, hT6, hF7⟩ := h
    refine xr_if_lt (tgt := 102) dX12_fits_50 (by decide) q5  (fun c => ?_) (fun c => ?_)
    · have h := hT6 c
      refine xr_iinc' (ll' := [some (xr G 74), some (xi v1), some (xi v2), some (xi v3), some (xi (v4 + 1)), some (xi v5), some (xi v6), some (xi v7)]) dX12_fits_102 rfl (by decide) rfl rfl ?_
      refine xr_goto (tgt := 10) dX12_fits_105 (by decide) ?_
      refine xr_wk (ll' := [some (xr G 74), some (xi v1), some (xi v2), some (xi v3), some (xi (v4 + 1)), none, none, none]) ⟨rfl, ⟨rfl, ⟨rfl, ⟨rfl, ⟨rfl, trivial⟩⟩⟩⟩⟩ ?_
      exact h
    · have h := hF7 (Int.not_lt.mp c)
      refine xr_aload_n dX12_fits_53 rfl ?_
      refine xr_getR dX12_fits_54 fl_X12_155 L_74 rfl ?_
      refine xr_iload dX12_fits_57 rfl ?_
      obtain ⟨q8, h⟩ := h
      refine xr_iaload' (v := μ 120 v7) dX12_fits_59 L_120 rfl (by decide) q8 rfl ?_
      refine xr_iload dX12_fits_60 rfl ?_
      obtain ⟨q9, hT10, hF11⟩ := h
      refine xr_icmp_ne (tgt := 96) dX12_fits_62 (by decide) q9 q5 (fun c => ?_) (fun c => ?_)
      · have h := hT10 c
        refine xr_iinc' (ll' := [some (xr G 74), some (xi v1), some (xi v2), some (xi v3), some (xi v4), some (xi v5), some (xi v6), some (xi (v7 + 1))]) dX12_fits_96 rfl (by decide) rfl rfl ?_
        refine xr_goto (tgt := 42) dX12_fits_99 (by decide) ?_
        exact h
      · have h := hF11 c
        refine xr_aload_n dX12_fits_65 rfl ?_
        refine xr_aload_n dX12_fits_66 rfl ?_
        refine xr_getR dX12_fits_67 fl_X12_158 L_74 rfl ?_
        refine xr_iload dX12_fits_70 rfl ?_
        refine xr_iaload' (v := μ 121 v7) dX12_fits_72 L_121 rfl (by decide) q8 rfl ?_
        refine xr_aload_n dX12_fits_73 rfl ?_
        refine xr_iload dX12_fits_74 rfl ?_
        refine xr_iload dX12_fits_76 rfl ?_
        refine xr_cvI (As := [xi v6, xi v5]) dX12_fits_78 mi_X12_placeIn ml_X12_412 se_X12_placeIn L_74 rfl rfl rfl (Nat.le_of_ble_eq_true rfl) h (fun r12 m13 hr12 h => ?_)
        refine xr_cvI (As := [xi (μ 121 v7), xi r12]) dX12_fits_81 mi_X12_letterOf ml_X12_406 se_X12_letterOf L_74 rfl rfl rfl (Nat.le_of_ble_eq_true rfl) h (fun r14 m15 hr14 h => ?_)
        refine xr_aload_n dX12_fits_84 rfl ?_
        refine xr_iload_n dX12_fits_85 rfl ?_
        refine xr_iload dX12_fits_86 rfl ?_
        refine xr_cvI (As := [xi v2, xi v4]) dX12_fits_88 mi_X12_letterOf ml_X12_406 se_X12_letterOf L_74 rfl rfl rfl (Nat.le_of_ble_eq_true rfl) h (fun r16 m17 hr16 h => ?_)
        obtain ⟨hT18, hF19⟩ := h
        refine xr_icmp_eq (tgt := 96) dX12_fits_91 (by decide) hr14 hr16 (fun c => ?_) (fun c => ?_)
        · have h := hT18 c
          refine xr_iinc' (ll' := [some (xr G 74), some (xi v1), some (xi v2), some (xi v3), some (xi v4), some (xi v5), some (xi v6), some (xi (v7 + 1))]) dX12_fits_96 rfl (by decide) rfl rfl ?_
          refine xr_goto (tgt := 42) dX12_fits_99 (by decide) ?_
          exact h
        · have h := hF19 c
          refine xr_iconst dX12_fits_94 ?_
          exact xr_zret dX12_fits_95 rfl (x_nz (by decide)).1 ⟨rfl, _, rfl, x_01 (by decide), h⟩
theorem dX12_fillings_0 : decode cX12_fillings 0 = .ok (.aload_n 0, 1) := by decide +kernel
theorem dX12_fillings_1 : decode cX12_fillings 1 = .ok (.iconst 0, 1) := by decide +kernel
theorem dX12_fillings_2 : decode cX12_fillings 2 = .ok (.putfield 185, 3) := by decide +kernel
theorem dX12_fillings_5 : decode cX12_fillings 5 = .ok (.aload_n 0, 1) := by decide +kernel
theorem dX12_fillings_6 : decode cX12_fillings 6 = .ok (.iload_n 1, 1) := by decide +kernel
theorem dX12_fillings_7 : decode cX12_fillings 7 = .ok (.invokevirtual 388, 3) := by decide +kernel
theorem dX12_fillings_10 : decode cX12_fillings 10 = .ok (.iconst 0, 1) := by decide +kernel
theorem dX12_fillings_11 : decode cX12_fillings 11 = .ok (.istore_n 2, 1) := by decide +kernel
theorem dX12_fillings_12 : decode cX12_fillings 12 = .ok (.iconst 0, 1) := by decide +kernel
theorem dX12_fillings_13 : decode cX12_fillings 13 = .ok (.istore_n 3, 1) := by decide +kernel
theorem dX12_fillings_14 : decode cX12_fillings 14 = .ok (.iload_n 3, 1) := by decide +kernel
theorem dX12_fillings_15 : decode cX12_fillings 15 = .ok (.bipush 16, 2) := by decide +kernel
theorem dX12_fillings_17 : decode cX12_fillings 17 = .ok (.if_icmp .ge 31, 3) := by decide +kernel
theorem dX12_fillings_20 : decode cX12_fillings 20 = .ok (.aload_n 0, 1) := by decide +kernel
theorem dX12_fillings_21 : decode cX12_fillings 21 = .ok (.getfield 146, 3) := by decide +kernel
theorem dX12_fillings_24 : decode cX12_fillings 24 = .ok (.iload_n 3, 1) := by decide +kernel
theorem dX12_fillings_25 : decode cX12_fillings 25 = .ok (.baload, 1) := by decide +kernel
theorem dX12_fillings_26 : decode cX12_fillings 26 = .ok (.ifCond .ne 6, 3) := by decide +kernel
theorem dX12_fillings_29 : decode cX12_fillings 29 = .ok (.goto 13, 3) := by decide +kernel
theorem dX12_fillings_32 : decode cX12_fillings 32 = .ok (.aload_n 0, 1) := by decide +kernel
theorem dX12_fillings_33 : decode cX12_fillings 33 = .ok (.getfield 155, 3) := by decide +kernel
theorem dX12_fillings_36 : decode cX12_fillings 36 = .ok (.iload_n 2, 1) := by decide +kernel
theorem dX12_fillings_37 : decode cX12_fillings 37 = .ok (.iload_n 3, 1) := by decide +kernel
theorem dX12_fillings_38 : decode cX12_fillings 38 = .ok (.iastore, 1) := by decide +kernel
theorem dX12_fillings_39 : decode cX12_fillings 39 = .ok (.iinc 2 1, 3) := by decide +kernel
theorem dX12_fillings_42 : decode cX12_fillings 42 = .ok (.iinc 3 1, 3) := by decide +kernel
theorem dX12_fillings_45 : decode cX12_fillings 45 = .ok (.goto (-31), 3) := by decide +kernel
theorem dX12_fillings_48 : decode cX12_fillings 48 = .ok (.iload_n 2, 1) := by decide +kernel
theorem dX12_fillings_49 : decode cX12_fillings 49 = .ok (.ifCond .ne 5, 3) := by decide +kernel
theorem dX12_fillings_52 : decode cX12_fillings 52 = .ok (.iconst 0, 1) := by decide +kernel
theorem dX12_fillings_53 : decode cX12_fillings 53 = .ok (.ireturn, 1) := by decide +kernel
theorem dX12_fillings_54 : decode cX12_fillings 54 = .ok (.iconst 0, 1) := by decide +kernel
theorem dX12_fillings_55 : decode cX12_fillings 55 = .ok (.istore_n 3, 1) := by decide +kernel
theorem dX12_fillings_56 : decode cX12_fillings 56 = .ok (.iconst 0, 1) := by decide +kernel
theorem dX12_fillings_57 : decode cX12_fillings 57 = .ok (.istore 4, 2) := by decide +kernel
theorem dX12_fillings_59 : decode cX12_fillings 59 = .ok (.iconst 0, 1) := by decide +kernel
theorem dX12_fillings_60 : decode cX12_fillings 60 = .ok (.istore 5, 2) := by decide +kernel
theorem dX12_fillings_62 : decode cX12_fillings 62 = .ok (.aload_n 0, 1) := by decide +kernel
theorem dX12_fillings_63 : decode cX12_fillings 63 = .ok (.getfield 158, 3) := by decide +kernel
theorem dX12_fillings_66 : decode cX12_fillings 66 = .ok (.iconst 0, 1) := by decide +kernel
theorem dX12_fillings_67 : decode cX12_fillings 67 = .ok (.iconst (-1), 1) := by decide +kernel
theorem dX12_fillings_68 : decode cX12_fillings 68 = .ok (.iastore, 1) := by decide +kernel
theorem dX12_fillings_69 : decode cX12_fillings 69 = .ok (.iload 5, 2) := by decide +kernel
theorem dX12_fillings_71 : decode cX12_fillings 71 = .ok (.ifCond .lt 144, 3) := by decide +kernel
theorem dX12_fillings_74 : decode cX12_fillings 74 = .ok (.aload_n 0, 1) := by decide +kernel
theorem dX12_fillings_75 : decode cX12_fillings 75 = .ok (.getfield 158, 3) := by decide +kernel
theorem dX12_fillings_78 : decode cX12_fillings 78 = .ok (.iload 5, 2) := by decide +kernel
theorem dX12_fillings_80 : decode cX12_fillings 80 = .ok (.dup2, 1) := by decide +kernel
theorem dX12_fillings_81 : decode cX12_fillings 81 = .ok (.iaload, 1) := by decide +kernel
theorem dX12_fillings_82 : decode cX12_fillings 82 = .ok (.iconst 1, 1) := by decide +kernel
theorem dX12_fillings_83 : decode cX12_fillings 83 = .ok (.iadd, 1) := by decide +kernel
theorem dX12_fillings_84 : decode cX12_fillings 84 = .ok (.iastore, 1) := by decide +kernel
theorem dX12_fillings_85 : decode cX12_fillings 85 = .ok (.aload_n 0, 1) := by decide +kernel
theorem dX12_fillings_86 : decode cX12_fillings 86 = .ok (.getfield 158, 3) := by decide +kernel
theorem dX12_fillings_89 : decode cX12_fillings 89 = .ok (.iload 5, 2) := by decide +kernel
theorem dX12_fillings_91 : decode cX12_fillings 91 = .ok (.iaload, 1) := by decide +kernel
theorem dX12_fillings_92 : decode cX12_fillings 92 = .ok (.aload_n 0, 1) := by decide +kernel
theorem dX12_fillings_93 : decode cX12_fillings 93 = .ok (.getfield 208, 3) := by decide +kernel
theorem dX12_fillings_96 : decode cX12_fillings 96 = .ok (.if_icmp .lt 9, 3) := by decide +kernel
theorem dX12_fillings_99 : decode cX12_fillings 99 = .ok (.iinc 5 (-1), 3) := by decide +kernel
theorem dX12_fillings_102 : decode cX12_fillings 102 = .ok (.goto (-33), 3) := by decide +kernel
theorem dX12_fillings_105 : decode cX12_fillings 105 = .ok (.aload_n 0, 1) := by decide +kernel
theorem dX12_fillings_106 : decode cX12_fillings 106 = .ok (.getfield 119, 3) := by decide +kernel
theorem dX12_fillings_109 : decode cX12_fillings 109 = .ok (.bipush 120, 2) := by decide +kernel
theorem dX12_fillings_111 : decode cX12_fillings 111 = .ok (.aload_n 0, 1) := by decide +kernel
theorem dX12_fillings_112 : decode cX12_fillings 112 = .ok (.getfield 155, 3) := by decide +kernel
theorem dX12_fillings_115 : decode cX12_fillings 115 = .ok (.iload 5, 2) := by decide +kernel
theorem dX12_fillings_117 : decode cX12_fillings 117 = .ok (.iaload, 1) := by decide +kernel
theorem dX12_fillings_118 : decode cX12_fillings 118 = .ok (.imul, 1) := by decide +kernel
theorem dX12_fillings_119 : decode cX12_fillings 119 = .ok (.aload_n 0, 1) := by decide +kernel
theorem dX12_fillings_120 : decode cX12_fillings 120 = .ok (.getfield 158, 3) := by decide +kernel
theorem dX12_fillings_123 : decode cX12_fillings 123 = .ok (.iload 5, 2) := by decide +kernel
theorem dX12_fillings_125 : decode cX12_fillings 125 = .ok (.iaload, 1) := by decide +kernel
theorem dX12_fillings_126 : decode cX12_fillings 126 = .ok (.iadd, 1) := by decide +kernel
theorem dX12_fillings_127 : decode cX12_fillings 127 = .ok (.baload, 1) := by decide +kernel
theorem dX12_fillings_128 : decode cX12_fillings 128 = .ok (.ifCond .ne 6, 3) := by decide +kernel
theorem dX12_fillings_131 : decode cX12_fillings 131 = .ok (.goto (-62), 3) := by decide +kernel
theorem dX12_fillings_134 : decode cX12_fillings 134 = .ok (.iinc 4 1, 3) := by decide +kernel
theorem dX12_fillings_137 : decode cX12_fillings 137 = .ok (.iload 4, 2) := by decide +kernel
theorem dX12_fillings_139 : decode cX12_fillings 139 = .ok (.sipush 20000, 3) := by decide +kernel
theorem dX12_fillings_142 : decode cX12_fillings 142 = .ok (.if_icmp .le 6, 3) := by decide +kernel
theorem dX12_fillings_145 : decode cX12_fillings 145 = .ok (.bipush (-2), 2) := by decide +kernel
theorem dX12_fillings_147 : decode cX12_fillings 147 = .ok (.ireturn, 1) := by decide +kernel
theorem dX12_fillings_148 : decode cX12_fillings 148 = .ok (.aload_n 0, 1) := by decide +kernel
theorem dX12_fillings_149 : decode cX12_fillings 149 = .ok (.iload 5, 2) := by decide +kernel
theorem dX12_fillings_151 : decode cX12_fillings 151 = .ok (.aload_n 0, 1) := by decide +kernel
theorem dX12_fillings_152 : decode cX12_fillings 152 = .ok (.getfield 158, 3) := by decide +kernel
theorem dX12_fillings_155 : decode cX12_fillings 155 = .ok (.iload 5, 2) := by decide +kernel
theorem dX12_fillings_157 : decode cX12_fillings 157 = .ok (.iaload, 1) := by decide +kernel
theorem dX12_fillings_158 : decode cX12_fillings 158 = .ok (.invokevirtual 434, 3) := by decide +kernel
theorem dX12_fillings_161 : decode cX12_fillings 161 = .ok (.ifCond .ne 6, 3) := by decide +kernel
theorem dX12_fillings_164 : decode cX12_fillings 164 = .ok (.goto (-95), 3) := by decide +kernel
theorem dX12_fillings_167 : decode cX12_fillings 167 = .ok (.iload 5, 2) := by decide +kernel
theorem dX12_fillings_169 : decode cX12_fillings 169 = .ok (.iconst 1, 1) := by decide +kernel
theorem dX12_fillings_170 : decode cX12_fillings 170 = .ok (.iadd, 1) := by decide +kernel
theorem dX12_fillings_171 : decode cX12_fillings 171 = .ok (.iload_n 2, 1) := by decide +kernel
theorem dX12_fillings_172 : decode cX12_fillings 172 = .ok (.if_icmp .ge 17, 3) := by decide +kernel
theorem dX12_fillings_175 : decode cX12_fillings 175 = .ok (.iinc 5 1, 3) := by decide +kernel
theorem dX12_fillings_178 : decode cX12_fillings 178 = .ok (.aload_n 0, 1) := by decide +kernel
theorem dX12_fillings_179 : decode cX12_fillings 179 = .ok (.getfield 158, 3) := by decide +kernel
theorem dX12_fillings_182 : decode cX12_fillings 182 = .ok (.iload 5, 2) := by decide +kernel
theorem dX12_fillings_184 : decode cX12_fillings 184 = .ok (.iconst (-1), 1) := by decide +kernel
theorem dX12_fillings_185 : decode cX12_fillings 185 = .ok (.iastore, 1) := by decide +kernel
theorem dX12_fillings_186 : decode cX12_fillings 186 = .ok (.goto (-117), 3) := by decide +kernel
theorem dX12_fillings_189 : decode cX12_fillings 189 = .ok (.iinc 3 1, 3) := by decide +kernel
theorem dX12_fillings_192 : decode cX12_fillings 192 = .ok (.iload_n 3, 1) := by decide +kernel
theorem dX12_fillings_193 : decode cX12_fillings 193 = .ok (.iconst 1, 1) := by decide +kernel
theorem dX12_fillings_194 : decode cX12_fillings 194 = .ok (.if_icmp .ne 8, 3) := by decide +kernel
theorem dX12_fillings_197 : decode cX12_fillings 197 = .ok (.aload_n 0, 1) := by decide +kernel
theorem dX12_fillings_198 : decode cX12_fillings 198 = .ok (.iload_n 2, 1) := by decide +kernel
theorem dX12_fillings_199 : decode cX12_fillings 199 = .ok (.invokevirtual 437, 3) := by decide +kernel
theorem dX12_fillings_202 : decode cX12_fillings 202 = .ok (.iload_n 3, 1) := by decide +kernel
theorem dX12_fillings_203 : decode cX12_fillings 203 = .ok (.sipush 1000, 3) := by decide +kernel
theorem dX12_fillings_206 : decode cX12_fillings 206 = .ok (.if_icmp .ne (-137), 3) := by decide +kernel
theorem dX12_fillings_209 : decode cX12_fillings 209 = .ok (.aload_n 0, 1) := by decide +kernel
theorem dX12_fillings_210 : decode cX12_fillings 210 = .ok (.invokevirtual 440, 3) := by decide +kernel
theorem dX12_fillings_213 : decode cX12_fillings 213 = .ok (.iload_n 3, 1) := by decide +kernel
theorem dX12_fillings_214 : decode cX12_fillings 214 = .ok (.ireturn, 1) := by decide +kernel
theorem dX12_fillings_215 : decode cX12_fillings 215 = .ok (.iload_n 3, 1) := by decide +kernel
theorem dX12_fillings_216 : decode cX12_fillings 216 = .ok (.ifCond .le 7, 3) := by decide +kernel
theorem dX12_fillings_219 : decode cX12_fillings 219 = .ok (.aload_n 0, 1) := by decide +kernel
theorem dX12_fillings_220 : decode cX12_fillings 220 = .ok (.invokevirtual 440, 3) := by decide +kernel
theorem dX12_fillings_223 : decode cX12_fillings 223 = .ok (.iload_n 3, 1) := by decide +kernel
theorem dX12_fillings_224 : decode cX12_fillings 224 = .ok (.ireturn, 1) := by decide +kernel
def K_X12_fillings_14 (G : xG) (l : Launch) (d : Nat) (P : Int → xMem → Prop) (v2 v3 : Int) (μ : xMem) : Prop := RR G l d 0 0 false mX12_fillings (qI P) 14 [some (xr G 74), none, some (xi v2), some (xi v3), none, none] [] LAY μ 0 0
def K_X12_fillings_69 (G : xG) (l : Launch) (d : Nat) (P : Int → xMem → Prop) (v2 v3 v4 v5 : Int) (μ : xMem) : Prop := RR G l d 0 0 false mX12_fillings (qI P) 69 [some (xr G 74), none, some (xi v2), some (xi v3), some (xi v4), some (xi v5)] [] LAY μ 0 0
set_option maxRecDepth 20000 in
theorem E_X12_fillings {G : xG} {l : Launch} {d : Nat} {P : Int → xMem → Prop} {v1 : Int} {μ : xMem} (h : CV G l d mX12_find [xr G 74, xi v1] (st2 μ 74 0 0) (fun m2 => K_X12_fillings_14 G l (d + 1) P 0 0 m2)) : CI G l (d + 1) mX12_fillings [xr G 74, xi v1] μ P := by
  refine CC.ofRR (ll := [some (xr G 74), some (xi v1), none, none, none, none]) (by decide +kernel) (Nat.le_of_ble_eq_true rfl) rfl (fun h => by cases h) ?_
  refine xr_aload_n dX12_fillings_0 rfl ?_
  refine xr_iconst dX12_fillings_1 ?_
  refine xr_putI dX12_fillings_2 fp_X12_185 L_74 rfl rfl ⟨rfl, rfl⟩ ?_
  refine xr_aload_n dX12_fillings_5 rfl ?_
  refine xr_iload_n dX12_fillings_6 rfl ?_
  refine xr_cvV (As := [xi v1]) dX12_fillings_7 mi_X12_find ml_X12_388 se_X12_find L_74 rfl rfl rfl (Nat.le_of_ble_eq_true rfl) h (fun m2 h => ?_)
  refine xr_iconst dX12_fillings_10 ?_
  refine xr_istore_n' (ll' := [some (xr G 74), some (xi v1), some (xi 0), none, none, none]) dX12_fillings_11 (by decide) rfl rfl ?_
  refine xr_iconst dX12_fillings_12 ?_
  refine xr_istore_n' (ll' := [some (xr G 74), some (xi v1), some (xi 0), some (xi 0), none, none]) dX12_fillings_13 (by decide) rfl rfl ?_
  refine xr_wk (ll' := [some (xr G 74), none, some (xi 0), some (xi 0), none, none]) ⟨rfl, ⟨rfl, ⟨rfl, trivial⟩⟩⟩ ?_
  exact h
set_option maxRecDepth 20000 in
theorem B_X12_fillings_14 {G : xG} {l : Launch} {d : Nat} {P : Int → xMem → Prop} {v2 v3 : Int} {μ : xMem} (h : (iR v3 ∧ (16 ≤ v3 → (iR v2 ∧ (v2 ≠ 0 → K_X12_fillings_69 G l (d + 1) P v2 0 0 0 (st2 μ 121 0 (-1))) ∧ (v2 = 0 → P 0 μ))) ∧ (v3 < 16 → ((0 ≤ v3 ∧ v3 < 16) ∧ (iR (μ 117 v3) ∧ ((μ 117 v3) ≠ 0 → ((0 ≤ v2 ∧ v2 < 16) ∧ K_X12_fillings_14 G l (d + 1) P (v2 + 1) (v3 + 1) (st2 μ 120 v2 v3))) ∧ ((μ 117 v3) = 0 → K_X12_fillings_14 G l (d + 1) P v2 (v3 + 1) μ)))))) : K_X12_fillings_14 G l (d + 1) P v2 v3 μ := by
  unfold K_X12_fillings_14
  refine xr_iload_n dX12_fillings_14 rfl ?_
  refine xr_bipush dX12_fillings_15 (by decide) ?_
  obtain ⟨q1, hT2, hF3⟩ := h
  refine xr_icmp_ge (tgt := 48) dX12_fillings_17 (by decide) q1 (by decide) (fun c => ?_) (fun c => ?_)
  · have h := hT2 c
    refine xr_iload_n dX12_fillings_48 rfl ?_
    obtain ⟨q4, hT5, hF6⟩ := h
    refine xr_if_ne (tgt := 54) dX12_fillings_49 (by decide) q4  (fun c => ?_) (fun c => ?_)
    · have h := hT5 c
      refine xr_iconst dX12_fillings_54 ?_
      refine xr_istore_n' (ll' := [some (xr G 74), none, some (xi v2), some (xi 0), none, none]) dX12_fillings_55 (by decide) rfl rfl ?_
      refine xr_iconst dX12_fillings_56 ?_
      refine xr_istore' (ll' := [some (xr G 74), none, some (xi v2), some (xi 0), some (xi 0), none]) dX12_fillings_57 (by decide) rfl rfl ?_
      refine xr_iconst dX12_fillings_59 ?_
      refine xr_istore' (ll' := [some (xr G 74), none, some (xi v2), some (xi 0), some (xi 0), some (xi 0)]) dX12_fillings_60 (by decide) rfl rfl ?_
      refine xr_aload_n dX12_fillings_62 rfl ?_
      refine xr_getR dX12_fillings_63 fl_X12_158 L_74 rfl ?_
      refine xr_iconst dX12_fillings_66 ?_
      refine xr_iconst dX12_fillings_67 ?_
      refine xr_iastore dX12_fillings_68 L_121 rfl (by decide) (by decide) ?_
      exact h
    · have h := hF6 c
      refine xr_iconst dX12_fillings_52 ?_
      exact xr_iret dX12_fillings_53 rfl ⟨rfl, _, rfl, (by decide), h⟩
  · have h := hF3 (Int.not_le.mp c)
    refine xr_aload_n dX12_fillings_20 rfl ?_
    refine xr_getR dX12_fillings_21 fl_X12_146 L_74 rfl ?_
    refine xr_iload_n dX12_fillings_24 rfl ?_
    obtain ⟨q7, h⟩ := h
    refine xr_zaload' (v := μ 117 v3) dX12_fillings_25 L_117 rfl (by decide) q7 rfl ?_
    obtain ⟨q8, hT9, hF10⟩ := h
    refine xr_if_ne (tgt := 32) dX12_fillings_26 (by decide) q8  (fun c => ?_) (fun c => ?_)
    · have h := hT9 c
      refine xr_aload_n dX12_fillings_32 rfl ?_
      refine xr_getR dX12_fillings_33 fl_X12_155 L_74 rfl ?_
      refine xr_iload_n dX12_fillings_36 rfl ?_
      refine xr_iload_n dX12_fillings_37 rfl ?_
      obtain ⟨q11, h⟩ := h
      refine xr_iastore dX12_fillings_38 L_120 rfl (by decide) q11 ?_
      refine xr_iinc' (ll' := [some (xr G 74), none, some (xi (v2 + 1)), some (xi v3), none, none]) dX12_fillings_39 rfl (by decide) rfl rfl ?_
      refine xr_iinc' (ll' := [some (xr G 74), none, some (xi (v2 + 1)), some (xi (v3 + 1)), none, none]) dX12_fillings_42 rfl (by decide) rfl rfl ?_
      refine xr_goto (tgt := 14) dX12_fillings_45 (by decide) ?_
      exact h
    · have h := hF10 c
      refine xr_goto (tgt := 42) dX12_fillings_29 (by decide) ?_
      refine xr_iinc' (ll' := [some (xr G 74), none, some (xi v2), some (xi (v3 + 1)), none, none]) dX12_fillings_42 rfl (by decide) rfl rfl ?_
      refine xr_goto (tgt := 14) dX12_fillings_45 (by decide) ?_
      exact h
set_option maxRecDepth 20000 in
theorem B_X12_fillings_69 {G : xG} {l : Launch} {d : Nat} {P : Int → xMem → Prop} {v2 v3 v4 v5 : Int} {μ : xMem} (h : (iR v5 ∧ (v5 < 0 → (iR v3 ∧ (v3 ≤ 0 → P v3 μ) ∧ (0 < v3 → CV G l d mX12_tellFirst [xr G 74] μ (fun m8 => P v3 m8)))) ∧ (0 ≤ v5 → ((0 ≤ v5 ∧ v5 < 16) ∧ (iR ((μ 121 v5) + 1) ∧ iR (μ 74 20) ∧ (((μ 121 v5) + 1) < (μ 74 20) → ((0 ≤ (120 * (μ 120 v5)) + ((μ 121 v5) + 1) ∧ (120 * (μ 120 v5)) + ((μ 121 v5) + 1) < 1920) ∧ (iR (μ 108 ((120 * (μ 120 v5)) + ((μ 121 v5) + 1))) ∧ ((μ 108 ((120 * (μ 120 v5)) + ((μ 121 v5) + 1))) ≠ 0 → (iR (v4 + 1) ∧ ((v4 + 1) ≤ 20000 → CI G l d mX12_fits [xr G 74, xi v5, xi ((μ 121 v5) + 1)] (st2 μ 121 v5 ((μ 121 v5) + 1)) (fun r21 m22 => ((r21 ≠ 0 → (iR (v5 + 1) ∧ iR v2 ∧ (v2 ≤ (v5 + 1) → (iR (v3 + 1) ∧ ((v3 + 1) ≠ 1 → (((v3 + 1) ≠ 1000 → K_X12_fillings_69 G l (d + 1) P v2 (v3 + 1) (v4 + 1) v5 m22) ∧ ((v3 + 1) = 1000 → CV G l d mX12_tellFirst [xr G 74] m22 (fun m35 => P (v3 + 1) m35)))) ∧ ((v3 + 1) = 1 → CV G l d mX12_keep [xr G 74, xi v2] m22 (fun m37 => (((v3 + 1) ≠ 1000 → K_X12_fillings_69 G l (d + 1) P v2 (v3 + 1) (v4 + 1) v5 m37) ∧ ((v3 + 1) = 1000 → CV G l d mX12_tellFirst [xr G 74] m37 (fun m41 => P (v3 + 1) m41))))))) ∧ ((v5 + 1) < v2 → ((0 ≤ v5 + 1 ∧ v5 + 1 < 16) ∧ K_X12_fillings_69 G l (d + 1) P v2 v3 (v4 + 1) (v5 + 1) (st2 m22 121 (v5 + 1) (-1)))))) ∧ (r21 = 0 → K_X12_fillings_69 G l (d + 1) P v2 v3 (v4 + 1) v5 m22)))) ∧ (20000 < (v4 + 1) → P (-2) (st2 μ 121 v5 ((μ 121 v5) + 1))))) ∧ ((μ 108 ((120 * (μ 120 v5)) + ((μ 121 v5) + 1))) = 0 → K_X12_fillings_69 G l (d + 1) P v2 v3 v4 v5 (st2 μ 121 v5 ((μ 121 v5) + 1)))))) ∧ ((μ 74 20) ≤ ((μ 121 v5) + 1) → K_X12_fillings_69 G l (d + 1) P v2 v3 v4 (v5 + (-1)) (st2 μ 121 v5 ((μ 121 v5) + 1)))))))) : K_X12_fillings_69 G l (d + 1) P v2 v3 v4 v5 μ := by
  unfold K_X12_fillings_69
  refine xr_iload dX12_fillings_69 rfl ?_
  obtain ⟨q1, hT2, hF3⟩ := h
  refine xr_if_lt (tgt := 215) dX12_fillings_71 (by decide) q1  (fun c => ?_) (fun c => ?_)
  · have h := hT2 c
    refine xr_iload_n dX12_fillings_215 rfl ?_
    obtain ⟨q4, hT5, hF6⟩ := h
    refine xr_if_le (tgt := 223) dX12_fillings_216 (by decide) q4  (fun c => ?_) (fun c => ?_)
    · have h := hT5 c
      refine xr_iload_n dX12_fillings_223 rfl ?_
      exact xr_iret dX12_fillings_224 rfl ⟨rfl, _, rfl, q4, h⟩
    · have h := hF6 (Int.not_le.mp c)
      refine xr_aload_n dX12_fillings_219 rfl ?_
      refine xr_cvV (As := []) dX12_fillings_220 mi_X12_tellFirst ml_X12_440 se_X12_tellFirst L_74 rfl rfl rfl (Nat.le_of_ble_eq_true rfl) h (fun m8 h => ?_)
      refine xr_iload_n dX12_fillings_223 rfl ?_
      exact xr_iret dX12_fillings_224 rfl ⟨rfl, _, rfl, q4, h⟩
  · have h := hF3 (Int.not_lt.mp c)
    refine xr_aload_n dX12_fillings_74 rfl ?_
    refine xr_getR dX12_fillings_75 fl_X12_158 L_74 rfl ?_
    refine xr_iload dX12_fillings_78 rfl ?_
    refine xr_dup2 dX12_fillings_80 rfl rfl ?_
    obtain ⟨q9, h⟩ := h
    refine xr_iaload' (v := μ 121 v5) dX12_fillings_81 L_121 rfl (by decide) q9 rfl ?_
    refine xr_iconst dX12_fillings_82 ?_
    refine xr_iadd dX12_fillings_83 ?_
    refine xr_iastore dX12_fillings_84 L_121 rfl (by decide) q9 ?_
    refine xr_aload_n dX12_fillings_85 rfl ?_
    refine xr_getR dX12_fillings_86 fl_X12_158 L_74 rfl ?_
    refine xr_iload dX12_fillings_89 rfl ?_
    refine xr_iaload' (v := (μ 121 v5) + 1) dX12_fillings_91 L_121 rfl (by decide) q9 (by simp [st2, cpy]) ?_
    refine xr_aload_n dX12_fillings_92 rfl ?_
    refine xr_getI' (v := μ 74 20) dX12_fillings_93 fl_X12_208 L_74 rfl rfl (by simp [st2, cpy]) ?_
    obtain ⟨q10, q11, hT12, hF13⟩ := h
    refine xr_icmp_lt (tgt := 105) dX12_fillings_96 (by decide) q10 q11 (fun c => ?_) (fun c => ?_)
    · have h := hT12 c
      refine xr_aload_n dX12_fillings_105 rfl ?_
      refine xr_getR dX12_fillings_106 fl_X12_119 L_74 rfl ?_
      refine xr_bipush dX12_fillings_109 (by decide) ?_
      refine xr_aload_n dX12_fillings_111 rfl ?_
      refine xr_getR dX12_fillings_112 fl_X12_155 L_74 rfl ?_
      refine xr_iload dX12_fillings_115 rfl ?_
      refine xr_iaload' (v := μ 120 v5) dX12_fillings_117 L_120 rfl (by decide) q9 (by simp [st2, cpy]) ?_
      refine xr_imul dX12_fillings_118 ?_
      refine xr_aload_n dX12_fillings_119 rfl ?_
      refine xr_getR dX12_fillings_120 fl_X12_158 L_74 rfl ?_
      refine xr_iload dX12_fillings_123 rfl ?_
      refine xr_iaload' (v := (μ 121 v5) + 1) dX12_fillings_125 L_121 rfl (by decide) q9 (by simp [st2, cpy]) ?_
      refine xr_iadd dX12_fillings_126 ?_
      obtain ⟨q14, h⟩ := h
      refine xr_zaload' (v := μ 108 ((120 * (μ 120 v5)) + ((μ 121 v5) + 1))) dX12_fillings_127 L_108 rfl (by decide) q14 (by simp [st2, cpy]) ?_
      obtain ⟨q15, hT16, hF17⟩ := h
      refine xr_if_ne (tgt := 134) dX12_fillings_128 (by decide) q15  (fun c => ?_) (fun c => ?_)
      · have h := hT16 c
        refine xr_iinc' (ll' := [some (xr G 74), none, some (xi v2), some (xi v3), some (xi (v4 + 1)), some (xi v5)]) dX12_fillings_134 rfl (by decide) rfl rfl ?_
        refine xr_iload dX12_fillings_137 rfl ?_
        refine xr_sipush dX12_fillings_139 (by decide) ?_
        obtain ⟨q18, hT19, hF20⟩ := h
        refine xr_icmp_le (tgt := 148) dX12_fillings_142 (by decide) q18 (by decide) (fun c => ?_) (fun c => ?_)
        · have h := hT19 c
          refine xr_aload_n dX12_fillings_148 rfl ?_
          refine xr_iload dX12_fillings_149 rfl ?_
          refine xr_aload_n dX12_fillings_151 rfl ?_
          refine xr_getR dX12_fillings_152 fl_X12_158 L_74 rfl ?_
          refine xr_iload dX12_fillings_155 rfl ?_
          refine xr_iaload' (v := (μ 121 v5) + 1) dX12_fillings_157 L_121 rfl (by decide) q9 (by simp [st2, cpy]) ?_
          refine xr_cvI (As := [xi v5, xi ((μ 121 v5) + 1)]) dX12_fillings_158 mi_X12_fits ml_X12_434 se_X12_fits L_74 rfl rfl rfl (Nat.le_of_ble_eq_true rfl) h (fun r21 m22 hr21 h => ?_)
          obtain ⟨hT23, hF24⟩ := h
          refine xr_if_ne (tgt := 167) dX12_fillings_161 (by decide) hr21  (fun c => ?_) (fun c => ?_)
          · have h := hT23 c
            refine xr_iload dX12_fillings_167 rfl ?_
            refine xr_iconst dX12_fillings_169 ?_
            refine xr_iadd dX12_fillings_170 ?_
            refine xr_iload_n dX12_fillings_171 rfl ?_
            obtain ⟨q25, q26, hT27, hF28⟩ := h
            refine xr_icmp_ge (tgt := 189) dX12_fillings_172 (by decide) q25 q26 (fun c => ?_) (fun c => ?_)
            · have h := hT27 c
              refine xr_iinc' (ll' := [some (xr G 74), none, some (xi v2), some (xi (v3 + 1)), some (xi (v4 + 1)), some (xi v5)]) dX12_fillings_189 rfl (by decide) rfl rfl ?_
              refine xr_iload_n dX12_fillings_192 rfl ?_
              refine xr_iconst dX12_fillings_193 ?_
              obtain ⟨q29, hT30, hF31⟩ := h
              refine xr_icmp_ne (tgt := 202) dX12_fillings_194 (by decide) q29 (by decide) (fun c => ?_) (fun c => ?_)
              · have h := hT30 c
                refine xr_iload_n dX12_fillings_202 rfl ?_
                refine xr_sipush dX12_fillings_203 (by decide) ?_
                obtain ⟨hT32, hF33⟩ := h
                refine xr_icmp_ne (tgt := 69) dX12_fillings_206 (by decide) q29 (by decide) (fun c => ?_) (fun c => ?_)
                · have h := hT32 c
                  exact h
                · have h := hF33 c
                  refine xr_aload_n dX12_fillings_209 rfl ?_
                  refine xr_cvV (As := []) dX12_fillings_210 mi_X12_tellFirst ml_X12_440 se_X12_tellFirst L_74 rfl rfl rfl (Nat.le_of_ble_eq_true rfl) h (fun m35 h => ?_)
                  refine xr_iload_n dX12_fillings_213 rfl ?_
                  exact xr_iret dX12_fillings_214 rfl ⟨rfl, _, rfl, q29, h⟩
              · have h := hF31 c
                refine xr_aload_n dX12_fillings_197 rfl ?_
                refine xr_iload_n dX12_fillings_198 rfl ?_
                refine xr_cvV (As := [xi v2]) dX12_fillings_199 mi_X12_keep ml_X12_437 se_X12_keep L_74 rfl rfl rfl (Nat.le_of_ble_eq_true rfl) h (fun m37 h => ?_)
                refine xr_iload_n dX12_fillings_202 rfl ?_
                refine xr_sipush dX12_fillings_203 (by decide) ?_
                obtain ⟨hT38, hF39⟩ := h
                refine xr_icmp_ne (tgt := 69) dX12_fillings_206 (by decide) q29 (by decide) (fun c => ?_) (fun c => ?_)
                · have h := hT38 c
                  exact h
                · have h := hF39 c
                  refine xr_aload_n dX12_fillings_209 rfl ?_
                  refine xr_cvV (As := []) dX12_fillings_210 mi_X12_tellFirst ml_X12_440 se_X12_tellFirst L_74 rfl rfl rfl (Nat.le_of_ble_eq_true rfl) h (fun m41 h => ?_)
                  refine xr_iload_n dX12_fillings_213 rfl ?_
                  exact xr_iret dX12_fillings_214 rfl ⟨rfl, _, rfl, q29, h⟩
            · have h := hF28 (Int.not_le.mp c)
              refine xr_iinc' (ll' := [some (xr G 74), none, some (xi v2), some (xi v3), some (xi (v4 + 1)), some (xi (v5 + 1))]) dX12_fillings_175 rfl (by decide) rfl rfl ?_
              refine xr_aload_n dX12_fillings_178 rfl ?_
              refine xr_getR dX12_fillings_179 fl_X12_158 L_74 rfl ?_
              refine xr_iload dX12_fillings_182 rfl ?_
              refine xr_iconst dX12_fillings_184 ?_
              obtain ⟨q42, h⟩ := h
              refine xr_iastore dX12_fillings_185 L_121 rfl (by decide) q42 ?_
              refine xr_goto (tgt := 69) dX12_fillings_186 (by decide) ?_
              exact h
          · have h := hF24 c
            refine xr_goto (tgt := 69) dX12_fillings_164 (by decide) ?_
            exact h
        · have h := hF20 (Int.not_le.mp c)
          refine xr_bipush dX12_fillings_145 (by decide) ?_
          exact xr_iret dX12_fillings_147 rfl ⟨rfl, _, rfl, (by decide), h⟩
      · have h := hF17 c
        refine xr_goto (tgt := 69) dX12_fillings_131 (by decide) ?_
        exact h
    · have h := hF13 (Int.not_lt.mp c)
      refine xr_iinc' (ll' := [some (xr G 74), none, some (xi v2), some (xi v3), some (xi v4), some (xi (v5 + (-1)))]) dX12_fillings_99 rfl (by decide) rfl rfl ?_
      refine xr_goto (tgt := 69) dX12_fillings_102 (by decide) ?_
      exact h
theorem dX12_keep_0 : decode cX12_keep 0 = .ok (.iconst 0, 1) := by decide +kernel
theorem dX12_keep_1 : decode cX12_keep 1 = .ok (.istore_n 2, 1) := by decide +kernel
theorem dX12_keep_2 : decode cX12_keep 2 = .ok (.iload_n 2, 1) := by decide +kernel
theorem dX12_keep_3 : decode cX12_keep 3 = .ok (.bipush 16, 2) := by decide +kernel
theorem dX12_keep_5 : decode cX12_keep 5 = .ok (.if_icmp .ge 16, 3) := by decide +kernel
theorem dX12_keep_8 : decode cX12_keep 8 = .ok (.aload_n 0, 1) := by decide +kernel
theorem dX12_keep_9 : decode cX12_keep 9 = .ok (.getfield 164, 3) := by decide +kernel
theorem dX12_keep_12 : decode cX12_keep 12 = .ok (.iload_n 2, 1) := by decide +kernel
theorem dX12_keep_13 : decode cX12_keep 13 = .ok (.iconst (-1), 1) := by decide +kernel
theorem dX12_keep_14 : decode cX12_keep 14 = .ok (.iastore, 1) := by decide +kernel
theorem dX12_keep_15 : decode cX12_keep 15 = .ok (.iinc 2 1, 3) := by decide +kernel
theorem dX12_keep_18 : decode cX12_keep 18 = .ok (.goto (-16), 3) := by decide +kernel
theorem dX12_keep_21 : decode cX12_keep 21 = .ok (.iconst 0, 1) := by decide +kernel
theorem dX12_keep_22 : decode cX12_keep 22 = .ok (.istore_n 2, 1) := by decide +kernel
theorem dX12_keep_23 : decode cX12_keep 23 = .ok (.iload_n 2, 1) := by decide +kernel
theorem dX12_keep_24 : decode cX12_keep 24 = .ok (.iload_n 1, 1) := by decide +kernel
theorem dX12_keep_25 : decode cX12_keep 25 = .ok (.if_icmp .ge 26, 3) := by decide +kernel
theorem dX12_keep_28 : decode cX12_keep 28 = .ok (.aload_n 0, 1) := by decide +kernel
theorem dX12_keep_29 : decode cX12_keep 29 = .ok (.getfield 164, 3) := by decide +kernel
theorem dX12_keep_32 : decode cX12_keep 32 = .ok (.aload_n 0, 1) := by decide +kernel
theorem dX12_keep_33 : decode cX12_keep 33 = .ok (.getfield 155, 3) := by decide +kernel
theorem dX12_keep_36 : decode cX12_keep 36 = .ok (.iload_n 2, 1) := by decide +kernel
theorem dX12_keep_37 : decode cX12_keep 37 = .ok (.iaload, 1) := by decide +kernel
theorem dX12_keep_38 : decode cX12_keep 38 = .ok (.aload_n 0, 1) := by decide +kernel
theorem dX12_keep_39 : decode cX12_keep 39 = .ok (.getfield 158, 3) := by decide +kernel
theorem dX12_keep_42 : decode cX12_keep 42 = .ok (.iload_n 2, 1) := by decide +kernel
theorem dX12_keep_43 : decode cX12_keep 43 = .ok (.iaload, 1) := by decide +kernel
theorem dX12_keep_44 : decode cX12_keep 44 = .ok (.iastore, 1) := by decide +kernel
theorem dX12_keep_45 : decode cX12_keep 45 = .ok (.iinc 2 1, 3) := by decide +kernel
theorem dX12_keep_48 : decode cX12_keep 48 = .ok (.goto (-25), 3) := by decide +kernel
theorem dX12_keep_51 : decode cX12_keep 51 = .ok (.return_, 1) := by decide +kernel
def K_X12_keep_2 (G : xG) (l : Launch) (d : Nat) (P : xMem → Prop) (v1 v2 : Int) (μ : xMem) : Prop := RR G l d 0 0 false mX12_keep (qV P) 2 [some (xr G 74), some (xi v1), some (xi v2)] [] LAY μ 0 0
def K_X12_keep_23 (G : xG) (l : Launch) (d : Nat) (P : xMem → Prop) (v1 v2 : Int) (μ : xMem) : Prop := RR G l d 0 0 false mX12_keep (qV P) 23 [some (xr G 74), some (xi v1), some (xi v2)] [] LAY μ 0 0
set_option maxRecDepth 20000 in
theorem E_X12_keep {G : xG} {l : Launch} {d : Nat} {P : xMem → Prop} {v1 : Int} {μ : xMem} (h : K_X12_keep_2 G l (d + 1) P v1 0 μ) : CV G l (d + 1) mX12_keep [xr G 74, xi v1] μ P := by
  refine CC.ofRR (ll := [some (xr G 74), some (xi v1), none]) (by decide +kernel) (Nat.le_of_ble_eq_true rfl) rfl (fun h => by cases h) ?_
  refine xr_iconst dX12_keep_0 ?_
  refine xr_istore_n' (ll' := [some (xr G 74), some (xi v1), some (xi 0)]) dX12_keep_1 (by decide) rfl rfl ?_
  exact h
set_option maxRecDepth 20000 in
theorem B_X12_keep_2 {G : xG} {l : Launch} {d : Nat} {P : xMem → Prop} {v1 v2 : Int} {μ : xMem} (h : (iR v2 ∧ (16 ≤ v2 → K_X12_keep_23 G l (d + 1) P v1 0 μ) ∧ (v2 < 16 → ((0 ≤ v2 ∧ v2 < 16) ∧ K_X12_keep_2 G l (d + 1) P v1 (v2 + 1) (st2 μ 123 v2 (-1)))))) : K_X12_keep_2 G l (d + 1) P v1 v2 μ := by
  unfold K_X12_keep_2
  refine xr_iload_n dX12_keep_2 rfl ?_
  refine xr_bipush dX12_keep_3 (by decide) ?_
  obtain ⟨q1, hT2, hF3⟩ := h
  refine xr_icmp_ge (tgt := 21) dX12_keep_5 (by decide) q1 (by decide) (fun c => ?_) (fun c => ?_)
  · have h := hT2 c
    refine xr_iconst dX12_keep_21 ?_
    refine xr_istore_n' (ll' := [some (xr G 74), some (xi v1), some (xi 0)]) dX12_keep_22 (by decide) rfl rfl ?_
    exact h
  · have h := hF3 (Int.not_le.mp c)
    refine xr_aload_n dX12_keep_8 rfl ?_
    refine xr_getR dX12_keep_9 fl_X12_164 L_74 rfl ?_
    refine xr_iload_n dX12_keep_12 rfl ?_
    refine xr_iconst dX12_keep_13 ?_
    obtain ⟨q4, h⟩ := h
    refine xr_iastore dX12_keep_14 L_123 rfl (by decide) q4 ?_
    refine xr_iinc' (ll' := [some (xr G 74), some (xi v1), some (xi (v2 + 1))]) dX12_keep_15 rfl (by decide) rfl rfl ?_
    refine xr_goto (tgt := 2) dX12_keep_18 (by decide) ?_
    exact h
set_option maxRecDepth 20000 in
theorem B_X12_keep_23 {G : xG} {l : Launch} {d : Nat} {P : xMem → Prop} {v1 v2 : Int} {μ : xMem} (h : (iR v2 ∧ iR v1 ∧ (v1 ≤ v2 → P μ) ∧ (v2 < v1 → ((0 ≤ v2 ∧ v2 < 16) ∧ ((0 ≤ μ 120 v2 ∧ μ 120 v2 < 16) ∧ K_X12_keep_23 G l (d + 1) P v1 (v2 + 1) (st2 μ 123 (μ 120 v2) (μ 121 v2))))))) : K_X12_keep_23 G l (d + 1) P v1 v2 μ := by
  unfold K_X12_keep_23
  refine xr_iload_n dX12_keep_23 rfl ?_
  refine xr_iload_n dX12_keep_24 rfl ?_
  obtain ⟨q1, q2, hT3, hF4⟩ := h
  refine xr_icmp_ge (tgt := 51) dX12_keep_25 (by decide) q1 q2 (fun c => ?_) (fun c => ?_)
  · have h := hT3 c
    exact xr_ret dX12_keep_51 rfl ⟨rfl, rfl, h⟩
  · have h := hF4 (Int.not_le.mp c)
    refine xr_aload_n dX12_keep_28 rfl ?_
    refine xr_getR dX12_keep_29 fl_X12_164 L_74 rfl ?_
    refine xr_aload_n dX12_keep_32 rfl ?_
    refine xr_getR dX12_keep_33 fl_X12_155 L_74 rfl ?_
    refine xr_iload_n dX12_keep_36 rfl ?_
    obtain ⟨q5, h⟩ := h
    refine xr_iaload' (v := μ 120 v2) dX12_keep_37 L_120 rfl (by decide) q5 rfl ?_
    refine xr_aload_n dX12_keep_38 rfl ?_
    refine xr_getR dX12_keep_39 fl_X12_158 L_74 rfl ?_
    refine xr_iload_n dX12_keep_42 rfl ?_
    refine xr_iaload' (v := μ 121 v2) dX12_keep_43 L_121 rfl (by decide) q5 rfl ?_
    obtain ⟨q6, h⟩ := h
    refine xr_iastore dX12_keep_44 L_123 rfl (by decide) q6 ?_
    refine xr_iinc' (ll' := [some (xr G 74), some (xi v1), some (xi (v2 + 1))]) dX12_keep_45 rfl (by decide) rfl rfl ?_
    refine xr_goto (tgt := 23) dX12_keep_48 (by decide) ?_
    exact h
theorem dX12_tellFirst_0 : decode cX12_tellFirst 0 = .ok (.aload_n 0, 1) := by decide +kernel
theorem dX12_tellFirst_1 : decode cX12_tellFirst 1 = .ok (.iconst 1, 1) := by decide +kernel
theorem dX12_tellFirst_2 : decode cX12_tellFirst 2 = .ok (.putfield 443, 3) := by decide +kernel
theorem dX12_tellFirst_5 : decode cX12_tellFirst 5 = .ok (.iconst 0, 1) := by decide +kernel
theorem dX12_tellFirst_6 : decode cX12_tellFirst 6 = .ok (.istore_n 1, 1) := by decide +kernel
theorem dX12_tellFirst_7 : decode cX12_tellFirst 7 = .ok (.iload_n 1, 1) := by decide +kernel
theorem dX12_tellFirst_8 : decode cX12_tellFirst 8 = .ok (.bipush 16, 2) := by decide +kernel
theorem dX12_tellFirst_10 : decode cX12_tellFirst 10 = .ok (.if_icmp .ge 21, 3) := by decide +kernel
theorem dX12_tellFirst_13 : decode cX12_tellFirst 13 = .ok (.aload_n 0, 1) := by decide +kernel
theorem dX12_tellFirst_14 : decode cX12_tellFirst 14 = .ok (.getfield 161, 3) := by decide +kernel
theorem dX12_tellFirst_17 : decode cX12_tellFirst 17 = .ok (.iload_n 1, 1) := by decide +kernel
theorem dX12_tellFirst_18 : decode cX12_tellFirst 18 = .ok (.aload_n 0, 1) := by decide +kernel
theorem dX12_tellFirst_19 : decode cX12_tellFirst 19 = .ok (.getfield 164, 3) := by decide +kernel
theorem dX12_tellFirst_22 : decode cX12_tellFirst 22 = .ok (.iload_n 1, 1) := by decide +kernel
theorem dX12_tellFirst_23 : decode cX12_tellFirst 23 = .ok (.iaload, 1) := by decide +kernel
theorem dX12_tellFirst_24 : decode cX12_tellFirst 24 = .ok (.iastore, 1) := by decide +kernel
theorem dX12_tellFirst_25 : decode cX12_tellFirst 25 = .ok (.iinc 1 1, 3) := by decide +kernel
theorem dX12_tellFirst_28 : decode cX12_tellFirst 28 = .ok (.goto (-21), 3) := by decide +kernel
theorem dX12_tellFirst_31 : decode cX12_tellFirst 31 = .ok (.return_, 1) := by decide +kernel
def K_X12_tellFirst_7 (G : xG) (l : Launch) (d : Nat) (P : xMem → Prop) (v1 : Int) (μ : xMem) : Prop := RR G l d 0 0 false mX12_tellFirst (qV P) 7 [some (xr G 74), some (xi v1)] [] LAY μ 0 0
set_option maxRecDepth 20000 in
theorem E_X12_tellFirst {G : xG} {l : Launch} {d : Nat} {P : xMem → Prop} {μ : xMem} (h : K_X12_tellFirst_7 G l (d + 1) P 0 (st2 μ 74 72 1)) : CV G l (d + 1) mX12_tellFirst [xr G 74] μ P := by
  refine CC.ofRR (ll := [some (xr G 74), none]) (by decide +kernel) (Nat.le_of_ble_eq_true rfl) rfl (fun h => by cases h) ?_
  refine xr_aload_n dX12_tellFirst_0 rfl ?_
  refine xr_iconst dX12_tellFirst_1 ?_
  refine xr_putI dX12_tellFirst_2 fp_X12_443 L_74 rfl rfl (x_nz (by decide)) ?_
  refine xr_iconst dX12_tellFirst_5 ?_
  refine xr_istore_n' (ll' := [some (xr G 74), some (xi 0)]) dX12_tellFirst_6 (by decide) rfl rfl ?_
  exact h
set_option maxRecDepth 20000 in
theorem B_X12_tellFirst_7 {G : xG} {l : Launch} {d : Nat} {P : xMem → Prop} {v1 : Int} {μ : xMem} (h : (iR v1 ∧ (16 ≤ v1 → P μ) ∧ (v1 < 16 → ((0 ≤ v1 ∧ v1 < 16) ∧ K_X12_tellFirst_7 G l (d + 1) P (v1 + 1) (st2 μ 122 v1 (μ 123 v1)))))) : K_X12_tellFirst_7 G l (d + 1) P v1 μ := by
  unfold K_X12_tellFirst_7
  refine xr_iload_n dX12_tellFirst_7 rfl ?_
  refine xr_bipush dX12_tellFirst_8 (by decide) ?_
  obtain ⟨q1, hT2, hF3⟩ := h
  refine xr_icmp_ge (tgt := 31) dX12_tellFirst_10 (by decide) q1 (by decide) (fun c => ?_) (fun c => ?_)
  · have h := hT2 c
    exact xr_ret dX12_tellFirst_31 rfl ⟨rfl, rfl, h⟩
  · have h := hF3 (Int.not_le.mp c)
    refine xr_aload_n dX12_tellFirst_13 rfl ?_
    refine xr_getR dX12_tellFirst_14 fl_X12_161 L_74 rfl ?_
    refine xr_iload_n dX12_tellFirst_17 rfl ?_
    refine xr_aload_n dX12_tellFirst_18 rfl ?_
    refine xr_getR dX12_tellFirst_19 fl_X12_164 L_74 rfl ?_
    refine xr_iload_n dX12_tellFirst_22 rfl ?_
    obtain ⟨q4, h⟩ := h
    refine xr_iaload' (v := μ 123 v1) dX12_tellFirst_23 L_123 rfl (by decide) q4 rfl ?_
    refine xr_iastore dX12_tellFirst_24 L_122 rfl (by decide) q4 ?_
    refine xr_iinc' (ll' := [some (xr G 74), some (xi (v1 + 1))]) dX12_tellFirst_25 rfl (by decide) rfl rfl ?_
    refine xr_goto (tgt := 7) dX12_tellFirst_28 (by decide) ?_
    exact h
theorem dX12_filled_0 : decode cX12_filled 0 = .ok (.aload_n 0, 1) := by decide +kernel
theorem dX12_filled_1 : decode cX12_filled 1 = .ok (.iconst 0, 1) := by decide +kernel
theorem dX12_filled_2 : decode cX12_filled 2 = .ok (.putfield 185, 3) := by decide +kernel
theorem dX12_filled_5 : decode cX12_filled 5 = .ok (.aload_n 0, 1) := by decide +kernel
theorem dX12_filled_6 : decode cX12_filled 6 = .ok (.getfield 443, 3) := by decide +kernel
theorem dX12_filled_9 : decode cX12_filled 9 = .ok (.ifCond .eq 22, 3) := by decide +kernel
theorem dX12_filled_12 : decode cX12_filled 12 = .ok (.iload_n 1, 1) := by decide +kernel
theorem dX12_filled_13 : decode cX12_filled 13 = .ok (.iconst 0, 1) := by decide +kernel
theorem dX12_filled_14 : decode cX12_filled 14 = .ok (.bipush 15, 2) := by decide +kernel
theorem dX12_filled_16 : decode cX12_filled 16 = .ok (.invokestatic 198, 3) := by decide +kernel
theorem dX12_filled_19 : decode cX12_filled 19 = .ok (.ifCond .eq 12, 3) := by decide +kernel
theorem dX12_filled_22 : decode cX12_filled 22 = .ok (.aload_n 0, 1) := by decide +kernel
theorem dX12_filled_23 : decode cX12_filled 23 = .ok (.getfield 161, 3) := by decide +kernel
theorem dX12_filled_26 : decode cX12_filled 26 = .ok (.iload_n 1, 1) := by decide +kernel
theorem dX12_filled_27 : decode cX12_filled 27 = .ok (.iaload, 1) := by decide +kernel
theorem dX12_filled_28 : decode cX12_filled 28 = .ok (.goto 4, 3) := by decide +kernel
theorem dX12_filled_31 : decode cX12_filled 31 = .ok (.iconst (-1), 1) := by decide +kernel
theorem dX12_filled_32 : decode cX12_filled 32 = .ok (.ireturn, 1) := by decide +kernel
set_option maxRecDepth 20000 in
theorem E_X12_filled {G : xG} {l : Launch} {d : Nat} {P : Int → xMem → Prop} {v1 : Int} {μ : xMem} (h : (iR (μ 74 72) ∧ ((μ 74 72) = 0 → P (-1) (st2 μ 74 0 0)) ∧ ((μ 74 72) ≠ 0 → CI G l d mX12_isIn [xi v1, xi 0, xi 15] (st2 μ 74 0 0) (fun r4 m5 => ((r4 = 0 → P (-1) m5) ∧ (r4 ≠ 0 → ((0 ≤ v1 ∧ v1 < 16) ∧ (iR (m5 122 v1) ∧ P (m5 122 v1) m5)))))))) : CI G l (d + 1) mX12_filled [xr G 74, xi v1] μ P := by
  refine CC.ofRR (ll := [some (xr G 74), some (xi v1)]) (by decide +kernel) (Nat.le_of_ble_eq_true rfl) rfl (fun h => by cases h) ?_
  refine xr_aload_n dX12_filled_0 rfl ?_
  refine xr_iconst dX12_filled_1 ?_
  refine xr_putI dX12_filled_2 fp_X12_185 L_74 rfl rfl ⟨rfl, rfl⟩ ?_
  refine xr_aload_n dX12_filled_5 rfl ?_
  refine xr_getI' (v := μ 74 72) dX12_filled_6 fl_X12_443 L_74 rfl rfl (by simp [st2, cpy]) ?_
  obtain ⟨q1, hT2, hF3⟩ := h
  refine xr_if_eq (tgt := 31) dX12_filled_9 (by decide) q1  (fun c => ?_) (fun c => ?_)
  · have h := hT2 c
    refine xr_iconst dX12_filled_31 ?_
    exact xr_iret dX12_filled_32 rfl ⟨rfl, _, rfl, (by decide), h⟩
  · have h := hF3 c
    refine xr_iload_n dX12_filled_12 rfl ?_
    refine xr_iconst dX12_filled_13 ?_
    refine xr_bipush dX12_filled_14 (by decide) ?_
    refine xr_csI (As := [xi v1, xi 0, xi 15]) dX12_filled_16 ms_X12_isIn ml_X12_198 rfl rfl (Nat.le_of_ble_eq_true rfl) h (fun r4 m5 hr4 h => ?_)
    obtain ⟨hT6, hF7⟩ := h
    refine xr_if_eq (tgt := 31) dX12_filled_19 (by decide) hr4  (fun c => ?_) (fun c => ?_)
    · have h := hT6 c
      refine xr_iconst dX12_filled_31 ?_
      exact xr_iret dX12_filled_32 rfl ⟨rfl, _, rfl, (by decide), h⟩
    · have h := hF7 c
      refine xr_aload_n dX12_filled_22 rfl ?_
      refine xr_getR dX12_filled_23 fl_X12_161 L_74 rfl ?_
      refine xr_iload_n dX12_filled_26 rfl ?_
      obtain ⟨q8, h⟩ := h
      refine xr_iaload' (v := m5 122 v1) dX12_filled_27 L_122 rfl (by decide) q8 rfl ?_
      refine xr_goto (tgt := 32) dX12_filled_28 (by decide) ?_
      obtain ⟨q9, h⟩ := h
      exact xr_iret dX12_filled_32 rfl ⟨rfl, _, rfl, q9, h⟩
theorem dX12_note_0 : decode cX12_note 0 = .ok (.aload_n 0, 1) := by decide +kernel
theorem dX12_note_1 : decode cX12_note 1 = .ok (.getfield 167, 3) := by decide +kernel
theorem dX12_note_4 : decode cX12_note 4 = .ok (.aload_n 0, 1) := by decide +kernel
theorem dX12_note_5 : decode cX12_note 5 = .ok (.getfield 446, 3) := by decide +kernel
theorem dX12_note_8 : decode cX12_note 8 = .ok (.iload_n 1, 1) := by decide +kernel
theorem dX12_note_9 : decode cX12_note 9 = .ok (.iastore, 1) := by decide +kernel
theorem dX12_note_10 : decode cX12_note 10 = .ok (.aload_n 0, 1) := by decide +kernel
theorem dX12_note_11 : decode cX12_note 11 = .ok (.getfield 170, 3) := by decide +kernel
theorem dX12_note_14 : decode cX12_note 14 = .ok (.aload_n 0, 1) := by decide +kernel
theorem dX12_note_15 : decode cX12_note 15 = .ok (.getfield 446, 3) := by decide +kernel
theorem dX12_note_18 : decode cX12_note 18 = .ok (.iload_n 2, 1) := by decide +kernel
theorem dX12_note_19 : decode cX12_note 19 = .ok (.iastore, 1) := by decide +kernel
theorem dX12_note_20 : decode cX12_note 20 = .ok (.aload_n 0, 1) := by decide +kernel
theorem dX12_note_21 : decode cX12_note 21 = .ok (.dup, 1) := by decide +kernel
theorem dX12_note_22 : decode cX12_note 22 = .ok (.getfield 446, 3) := by decide +kernel
theorem dX12_note_25 : decode cX12_note 25 = .ok (.iconst 1, 1) := by decide +kernel
theorem dX12_note_26 : decode cX12_note 26 = .ok (.iadd, 1) := by decide +kernel
theorem dX12_note_27 : decode cX12_note 27 = .ok (.putfield 446, 3) := by decide +kernel
theorem dX12_note_30 : decode cX12_note 30 = .ok (.return_, 1) := by decide +kernel
set_option maxRecDepth 20000 in
theorem E_X12_note {G : xG} {l : Launch} {d : Nat} {P : xMem → Prop} {v1 v2 : Int} {μ : xMem} (h : ((0 ≤ μ 74 76 ∧ μ 74 76 < 80) ∧ P (st2 (st2 (st2 μ 124 (μ 74 76) v1) 125 (μ 74 76) v2) 74 76 ((μ 74 76) + 1)))) : CV G l (d + 1) mX12_note [xr G 74, xi v1, xi v2] μ P := by
  refine CC.ofRR (ll := [some (xr G 74), some (xi v1), some (xi v2)]) (by decide +kernel) (Nat.le_of_ble_eq_true rfl) rfl (fun h => by cases h) ?_
  refine xr_aload_n dX12_note_0 rfl ?_
  refine xr_getR dX12_note_1 fl_X12_167 L_74 rfl ?_
  refine xr_aload_n dX12_note_4 rfl ?_
  refine xr_getI' (v := μ 74 76) dX12_note_5 fl_X12_446 L_74 rfl rfl rfl ?_
  refine xr_iload_n dX12_note_8 rfl ?_
  obtain ⟨q1, h⟩ := h
  refine xr_iastore dX12_note_9 L_124 rfl (by decide) q1 ?_
  refine xr_aload_n dX12_note_10 rfl ?_
  refine xr_getR dX12_note_11 fl_X12_170 L_74 rfl ?_
  refine xr_aload_n dX12_note_14 rfl ?_
  refine xr_getI' (v := μ 74 76) dX12_note_15 fl_X12_446 L_74 rfl rfl (by simp [st2, cpy]) ?_
  refine xr_iload_n dX12_note_18 rfl ?_
  refine xr_iastore dX12_note_19 L_125 rfl (by decide) q1 ?_
  refine xr_aload_n dX12_note_20 rfl ?_
  refine xr_dup dX12_note_21 rfl ?_
  refine xr_getI' (v := μ 74 76) dX12_note_22 fl_X12_446 L_74 rfl rfl (by simp [st2, cpy]) ?_
  refine xr_iconst dX12_note_25 ?_
  refine xr_iadd dX12_note_26 ?_
  refine xr_putI dX12_note_27 fp_X12_446 L_74 rfl rfl ⟨rfl, rfl⟩ ?_
  exact xr_ret dX12_note_30 rfl ⟨rfl, rfl, h⟩
theorem dX12_hasRival_0 : decode cX12_hasRival 0 = .ok (.iconst 0, 1) := by decide +kernel
theorem dX12_hasRival_1 : decode cX12_hasRival 1 = .ok (.istore_n 3, 1) := by decide +kernel
theorem dX12_hasRival_2 : decode cX12_hasRival 2 = .ok (.iload_n 3, 1) := by decide +kernel
theorem dX12_hasRival_3 : decode cX12_hasRival 3 = .ok (.aload_n 0, 1) := by decide +kernel
theorem dX12_hasRival_4 : decode cX12_hasRival 4 = .ok (.getfield 208, 3) := by decide +kernel
theorem dX12_hasRival_7 : decode cX12_hasRival 7 = .ok (.if_icmp .ge 105, 3) := by decide +kernel
theorem dX12_hasRival_10 : decode cX12_hasRival 10 = .ok (.iload_n 3, 1) := by decide +kernel
theorem dX12_hasRival_11 : decode cX12_hasRival 11 = .ok (.iload_n 2, 1) := by decide +kernel
theorem dX12_hasRival_12 : decode cX12_hasRival 12 = .ok (.if_icmp .eq 94, 3) := by decide +kernel
theorem dX12_hasRival_15 : decode cX12_hasRival 15 = .ok (.aload_n 0, 1) := by decide +kernel
theorem dX12_hasRival_16 : decode cX12_hasRival 16 = .ok (.getfield 119, 3) := by decide +kernel
theorem dX12_hasRival_19 : decode cX12_hasRival 19 = .ok (.bipush 120, 2) := by decide +kernel
theorem dX12_hasRival_21 : decode cX12_hasRival 21 = .ok (.iload_n 1, 1) := by decide +kernel
theorem dX12_hasRival_22 : decode cX12_hasRival 22 = .ok (.imul, 1) := by decide +kernel
theorem dX12_hasRival_23 : decode cX12_hasRival 23 = .ok (.iload_n 3, 1) := by decide +kernel
theorem dX12_hasRival_24 : decode cX12_hasRival 24 = .ok (.iadd, 1) := by decide +kernel
theorem dX12_hasRival_25 : decode cX12_hasRival 25 = .ok (.baload, 1) := by decide +kernel
theorem dX12_hasRival_26 : decode cX12_hasRival 26 = .ok (.ifCond .ne 6, 3) := by decide +kernel
theorem dX12_hasRival_29 : decode cX12_hasRival 29 = .ok (.goto 77, 3) := by decide +kernel
theorem dX12_hasRival_32 : decode cX12_hasRival 32 = .ok (.iconst 1, 1) := by decide +kernel
theorem dX12_hasRival_33 : decode cX12_hasRival 33 = .ok (.istore 4, 2) := by decide +kernel
theorem dX12_hasRival_35 : decode cX12_hasRival 35 = .ok (.iconst 0, 1) := by decide +kernel
theorem dX12_hasRival_36 : decode cX12_hasRival 36 = .ok (.istore 5, 2) := by decide +kernel
theorem dX12_hasRival_38 : decode cX12_hasRival 38 = .ok (.iload 5, 2) := by decide +kernel
theorem dX12_hasRival_40 : decode cX12_hasRival 40 = .ok (.aload_n 0, 1) := by decide +kernel
theorem dX12_hasRival_41 : decode cX12_hasRival 41 = .ok (.getfield 53, 3) := by decide +kernel
theorem dX12_hasRival_44 : decode cX12_hasRival 44 = .ok (.iload_n 1, 1) := by decide +kernel
theorem dX12_hasRival_45 : decode cX12_hasRival 45 = .ok (.iaload, 1) := by decide +kernel
theorem dX12_hasRival_46 : decode cX12_hasRival 46 = .ok (.if_icmp .ge 53, 3) := by decide +kernel
theorem dX12_hasRival_49 : decode cX12_hasRival 49 = .ok (.iload 4, 2) := by decide +kernel
theorem dX12_hasRival_51 : decode cX12_hasRival 51 = .ok (.ifCond .eq 39, 3) := by decide +kernel
theorem dX12_hasRival_54 : decode cX12_hasRival 54 = .ok (.aload_n 0, 1) := by decide +kernel
theorem dX12_hasRival_55 : decode cX12_hasRival 55 = .ok (.iload_n 1, 1) := by decide +kernel
theorem dX12_hasRival_56 : decode cX12_hasRival 56 = .ok (.aload_n 0, 1) := by decide +kernel
theorem dX12_hasRival_57 : decode cX12_hasRival 57 = .ok (.iload_n 1, 1) := by decide +kernel
theorem dX12_hasRival_58 : decode cX12_hasRival 58 = .ok (.iload 5, 2) := by decide +kernel
theorem dX12_hasRival_60 : decode cX12_hasRival 60 = .ok (.invokevirtual 391, 3) := by decide +kernel
theorem dX12_hasRival_63 : decode cX12_hasRival 63 = .ok (.invokevirtual 409, 3) := by decide +kernel
theorem dX12_hasRival_66 : decode cX12_hasRival 66 = .ok (.ifCond .lt 20, 3) := by decide +kernel
theorem dX12_hasRival_69 : decode cX12_hasRival 69 = .ok (.aload_n 0, 1) := by decide +kernel
theorem dX12_hasRival_70 : decode cX12_hasRival 70 = .ok (.iload_n 3, 1) := by decide +kernel
theorem dX12_hasRival_71 : decode cX12_hasRival 71 = .ok (.iload 5, 2) := by decide +kernel
theorem dX12_hasRival_73 : decode cX12_hasRival 73 = .ok (.invokevirtual 406, 3) := by decide +kernel
theorem dX12_hasRival_76 : decode cX12_hasRival 76 = .ok (.aload_n 0, 1) := by decide +kernel
theorem dX12_hasRival_77 : decode cX12_hasRival 77 = .ok (.iload_n 2, 1) := by decide +kernel
theorem dX12_hasRival_78 : decode cX12_hasRival 78 = .ok (.iload 5, 2) := by decide +kernel
theorem dX12_hasRival_80 : decode cX12_hasRival 80 = .ok (.invokevirtual 406, 3) := by decide +kernel
theorem dX12_hasRival_83 : decode cX12_hasRival 83 = .ok (.if_icmp .ne 7, 3) := by decide +kernel
theorem dX12_hasRival_86 : decode cX12_hasRival 86 = .ok (.iconst 1, 1) := by decide +kernel
theorem dX12_hasRival_87 : decode cX12_hasRival 87 = .ok (.goto 4, 3) := by decide +kernel
theorem dX12_hasRival_90 : decode cX12_hasRival 90 = .ok (.iconst 0, 1) := by decide +kernel
theorem dX12_hasRival_91 : decode cX12_hasRival 91 = .ok (.istore 4, 2) := by decide +kernel
theorem dX12_hasRival_93 : decode cX12_hasRival 93 = .ok (.iinc 5 1, 3) := by decide +kernel
theorem dX12_hasRival_96 : decode cX12_hasRival 96 = .ok (.goto (-58), 3) := by decide +kernel
theorem dX12_hasRival_99 : decode cX12_hasRival 99 = .ok (.iload 4, 2) := by decide +kernel
theorem dX12_hasRival_101 : decode cX12_hasRival 101 = .ok (.ifCond .eq 5, 3) := by decide +kernel
theorem dX12_hasRival_104 : decode cX12_hasRival 104 = .ok (.iconst 1, 1) := by decide +kernel
theorem dX12_hasRival_105 : decode cX12_hasRival 105 = .ok (.ireturn, 1) := by decide +kernel
theorem dX12_hasRival_106 : decode cX12_hasRival 106 = .ok (.iinc 3 1, 3) := by decide +kernel
theorem dX12_hasRival_109 : decode cX12_hasRival 109 = .ok (.goto (-107), 3) := by decide +kernel
theorem dX12_hasRival_112 : decode cX12_hasRival 112 = .ok (.iconst 0, 1) := by decide +kernel
theorem dX12_hasRival_113 : decode cX12_hasRival 113 = .ok (.ireturn, 1) := by decide +kernel
def K_X12_hasRival_2 (G : xG) (l : Launch) (d : Nat) (P : Int → xMem → Prop) (v1 v2 v3 : Int) (μ : xMem) : Prop := RR G l d 0 0 false mX12_hasRival (qI P) 2 [some (xr G 74), some (xi v1), some (xi v2), some (xi v3), none, none] [] LAY μ 0 0
def K_X12_hasRival_38 (G : xG) (l : Launch) (d : Nat) (P : Int → xMem → Prop) (v1 v2 v3 v4 v5 : Int) (μ : xMem) : Prop := RR G l d 0 0 false mX12_hasRival (qI P) 38 [some (xr G 74), some (xi v1), some (xi v2), some (xi v3), some (xi v4), some (xi v5)] [] LAY μ 0 0
set_option maxRecDepth 20000 in
theorem E_X12_hasRival {G : xG} {l : Launch} {d : Nat} {P : Int → xMem → Prop} {v1 v2 : Int} {μ : xMem} (h : K_X12_hasRival_2 G l (d + 1) P v1 v2 0 μ) : CI G l (d + 1) mX12_hasRival [xr G 74, xi v1, xi v2] μ P := by
  refine CC.ofRR (ll := [some (xr G 74), some (xi v1), some (xi v2), none, none, none]) (by decide +kernel) (Nat.le_of_ble_eq_true rfl) rfl (fun h => by cases h) ?_
  refine xr_iconst dX12_hasRival_0 ?_
  refine xr_istore_n' (ll' := [some (xr G 74), some (xi v1), some (xi v2), some (xi 0), none, none]) dX12_hasRival_1 (by decide) rfl rfl ?_
  exact h
set_option maxRecDepth 20000 in
theorem B_X12_hasRival_2 {G : xG} {l : Launch} {d : Nat} {P : Int → xMem → Prop} {v1 v2 v3 : Int} {μ : xMem} (h : (iR v3 ∧ iR (μ 74 20) ∧ ((μ 74 20) ≤ v3 → P 0 μ) ∧ (v3 < (μ 74 20) → (iR v2 ∧ (v3 = v2 → K_X12_hasRival_2 G l (d + 1) P v1 v2 (v3 + 1) μ) ∧ (v3 ≠ v2 → ((0 ≤ (120 * v1) + v3 ∧ (120 * v1) + v3 < 1920) ∧ (iR (μ 108 ((120 * v1) + v3)) ∧ ((μ 108 ((120 * v1) + v3)) ≠ 0 → K_X12_hasRival_38 G l (d + 1) P v1 v2 v3 1 0 μ) ∧ ((μ 108 ((120 * v1) + v3)) = 0 → K_X12_hasRival_2 G l (d + 1) P v1 v2 (v3 + 1) μ)))))))) : K_X12_hasRival_2 G l (d + 1) P v1 v2 v3 μ := by
  unfold K_X12_hasRival_2
  refine xr_iload_n dX12_hasRival_2 rfl ?_
  refine xr_aload_n dX12_hasRival_3 rfl ?_
  refine xr_getI' (v := μ 74 20) dX12_hasRival_4 fl_X12_208 L_74 rfl rfl rfl ?_
  obtain ⟨q1, q2, hT3, hF4⟩ := h
  refine xr_icmp_ge (tgt := 112) dX12_hasRival_7 (by decide) q1 q2 (fun c => ?_) (fun c => ?_)
  · have h := hT3 c
    refine xr_iconst dX12_hasRival_112 ?_
    exact xr_zret dX12_hasRival_113 rfl (x_nz (by decide)).1 ⟨rfl, _, rfl, x_01 (by decide), h⟩
  · have h := hF4 (Int.not_le.mp c)
    refine xr_iload_n dX12_hasRival_10 rfl ?_
    refine xr_iload_n dX12_hasRival_11 rfl ?_
    obtain ⟨q5, hT6, hF7⟩ := h
    refine xr_icmp_eq (tgt := 106) dX12_hasRival_12 (by decide) q1 q5 (fun c => ?_) (fun c => ?_)
    · have h := hT6 c
      refine xr_iinc' (ll' := [some (xr G 74), some (xi v1), some (xi v2), some (xi (v3 + 1)), none, none]) dX12_hasRival_106 rfl (by decide) rfl rfl ?_
      refine xr_goto (tgt := 2) dX12_hasRival_109 (by decide) ?_
      exact h
    · have h := hF7 c
      refine xr_aload_n dX12_hasRival_15 rfl ?_
      refine xr_getR dX12_hasRival_16 fl_X12_119 L_74 rfl ?_
      refine xr_bipush dX12_hasRival_19 (by decide) ?_
      refine xr_iload_n dX12_hasRival_21 rfl ?_
      refine xr_imul dX12_hasRival_22 ?_
      refine xr_iload_n dX12_hasRival_23 rfl ?_
      refine xr_iadd dX12_hasRival_24 ?_
      obtain ⟨q8, h⟩ := h
      refine xr_zaload' (v := μ 108 ((120 * v1) + v3)) dX12_hasRival_25 L_108 rfl (by decide) q8 rfl ?_
      obtain ⟨q9, hT10, hF11⟩ := h
      refine xr_if_ne (tgt := 32) dX12_hasRival_26 (by decide) q9  (fun c => ?_) (fun c => ?_)
      · have h := hT10 c
        refine xr_iconst dX12_hasRival_32 ?_
        refine xr_istore' (ll' := [some (xr G 74), some (xi v1), some (xi v2), some (xi v3), some (xi 1), none]) dX12_hasRival_33 (by decide) rfl rfl ?_
        refine xr_iconst dX12_hasRival_35 ?_
        refine xr_istore' (ll' := [some (xr G 74), some (xi v1), some (xi v2), some (xi v3), some (xi 1), some (xi 0)]) dX12_hasRival_36 (by decide) rfl rfl ?_
        exact h
      · have h := hF11 c
        refine xr_goto (tgt := 106) dX12_hasRival_29 (by decide) ?_
        refine xr_iinc' (ll' := [some (xr G 74), some (xi v1), some (xi v2), some (xi (v3 + 1)), none, none]) dX12_hasRival_106 rfl (by decide) rfl rfl ?_
        refine xr_goto (tgt := 2) dX12_hasRival_109 (by decide) ?_
        exact h
set_option maxRecDepth 20000 in
theorem B_X12_hasRival_38 {G : xG} {l : Launch} {d : Nat} {P : Int → xMem → Prop} {v1 v2 v3 v4 v5 : Int} {μ : xMem} (h : ((0 ≤ v1 ∧ v1 < 16) ∧ (iR v5 ∧ iR (μ 89 v1) ∧ ((μ 89 v1) ≤ v5 → (iR v4 ∧ (v4 = 0 → K_X12_hasRival_2 G l (d + 1) P v1 v2 (v3 + 1) μ) ∧ (v4 ≠ 0 → P 1 μ))) ∧ (v5 < (μ 89 v1) → (iR v4 ∧ (v4 = 0 → K_X12_hasRival_38 G l (d + 1) P v1 v2 v3 0 (v5 + 1) μ) ∧ (v4 ≠ 0 → CI G l d mX12_cellOf [xr G 74, xi v1, xi v5] μ (fun r12 m13 => CI G l d mX12_other [xr G 74, xi v1, xi r12] m13 (fun r14 m15 => ((r14 < 0 → K_X12_hasRival_38 G l (d + 1) P v1 v2 v3 1 (v5 + 1) m15) ∧ (0 ≤ r14 → CI G l d mX12_letterOf [xr G 74, xi v3, xi v5] m15 (fun r18 m19 => CI G l d mX12_letterOf [xr G 74, xi v2, xi v5] m19 (fun r20 m21 => ((r18 ≠ r20 → K_X12_hasRival_38 G l (d + 1) P v1 v2 v3 0 (v5 + 1) m21) ∧ (r18 = r20 → K_X12_hasRival_38 G l (d + 1) P v1 v2 v3 1 (v5 + 1) m21)))))))))))))) : K_X12_hasRival_38 G l (d + 1) P v1 v2 v3 v4 v5 μ := by
  unfold K_X12_hasRival_38
  refine xr_iload dX12_hasRival_38 rfl ?_
  refine xr_aload_n dX12_hasRival_40 rfl ?_
  refine xr_getR dX12_hasRival_41 fl_X12_53 L_74 rfl ?_
  refine xr_iload_n dX12_hasRival_44 rfl ?_
  obtain ⟨q1, h⟩ := h
  refine xr_iaload' (v := μ 89 v1) dX12_hasRival_45 L_89 rfl (by decide) q1 rfl ?_
  obtain ⟨q2, q3, hT4, hF5⟩ := h
  refine xr_icmp_ge (tgt := 99) dX12_hasRival_46 (by decide) q2 q3 (fun c => ?_) (fun c => ?_)
  · have h := hT4 c
    refine xr_iload dX12_hasRival_99 rfl ?_
    obtain ⟨q6, hT7, hF8⟩ := h
    refine xr_if_eq (tgt := 106) dX12_hasRival_101 (by decide) q6  (fun c => ?_) (fun c => ?_)
    · have h := hT7 c
      refine xr_iinc' (ll' := [some (xr G 74), some (xi v1), some (xi v2), some (xi (v3 + 1)), some (xi v4), some (xi v5)]) dX12_hasRival_106 rfl (by decide) rfl rfl ?_
      refine xr_goto (tgt := 2) dX12_hasRival_109 (by decide) ?_
      refine xr_wk (ll' := [some (xr G 74), some (xi v1), some (xi v2), some (xi (v3 + 1)), none, none]) ⟨rfl, ⟨rfl, ⟨rfl, ⟨rfl, trivial⟩⟩⟩⟩ ?_
      exact h
    · have h := hF8 c
      refine xr_iconst dX12_hasRival_104 ?_
      exact xr_zret dX12_hasRival_105 rfl (x_nz (by decide)).1 ⟨rfl, _, rfl, x_01 (by decide), h⟩
  · have h := hF5 (Int.not_le.mp c)
    refine xr_iload dX12_hasRival_49 rfl ?_
    obtain ⟨q9, hT10, hF11⟩ := h
    refine xr_if_eq (tgt := 90) dX12_hasRival_51 (by decide) q9  (fun c => ?_) (fun c => ?_)
    · have h := hT10 c
      refine xr_iconst dX12_hasRival_90 ?_
      refine xr_istore' (ll' := [some (xr G 74), some (xi v1), some (xi v2), some (xi v3), some (xi 0), some (xi v5)]) dX12_hasRival_91 (by decide) rfl rfl ?_
      refine xr_iinc' (ll' := [some (xr G 74), some (xi v1), some (xi v2), some (xi v3), some (xi 0), some (xi (v5 + 1))]) dX12_hasRival_93 rfl (by decide) rfl rfl ?_
      refine xr_goto (tgt := 38) dX12_hasRival_96 (by decide) ?_
      exact h
    · have h := hF11 c
      refine xr_aload_n dX12_hasRival_54 rfl ?_
      refine xr_iload_n dX12_hasRival_55 rfl ?_
      refine xr_aload_n dX12_hasRival_56 rfl ?_
      refine xr_iload_n dX12_hasRival_57 rfl ?_
      refine xr_iload dX12_hasRival_58 rfl ?_
      refine xr_cvI (As := [xi v1, xi v5]) dX12_hasRival_60 mi_X12_cellOf ml_X12_391 se_X12_cellOf L_74 rfl rfl rfl (Nat.le_of_ble_eq_true rfl) h (fun r12 m13 hr12 h => ?_)
      refine xr_cvI (As := [xi v1, xi r12]) dX12_hasRival_63 mi_X12_other ml_X12_409 se_X12_other L_74 rfl rfl rfl (Nat.le_of_ble_eq_true rfl) h (fun r14 m15 hr14 h => ?_)
      obtain ⟨hT16, hF17⟩ := h
      refine xr_if_lt (tgt := 86) dX12_hasRival_66 (by decide) hr14  (fun c => ?_) (fun c => ?_)
      · have h := hT16 c
        refine xr_iconst dX12_hasRival_86 ?_
        refine xr_goto (tgt := 91) dX12_hasRival_87 (by decide) ?_
        refine xr_istore' (ll' := [some (xr G 74), some (xi v1), some (xi v2), some (xi v3), some (xi 1), some (xi v5)]) dX12_hasRival_91 (by decide) rfl rfl ?_
        refine xr_iinc' (ll' := [some (xr G 74), some (xi v1), some (xi v2), some (xi v3), some (xi 1), some (xi (v5 + 1))]) dX12_hasRival_93 rfl (by decide) rfl rfl ?_
        refine xr_goto (tgt := 38) dX12_hasRival_96 (by decide) ?_
        exact h
      · have h := hF17 (Int.not_lt.mp c)
        refine xr_aload_n dX12_hasRival_69 rfl ?_
        refine xr_iload_n dX12_hasRival_70 rfl ?_
        refine xr_iload dX12_hasRival_71 rfl ?_
        refine xr_cvI (As := [xi v3, xi v5]) dX12_hasRival_73 mi_X12_letterOf ml_X12_406 se_X12_letterOf L_74 rfl rfl rfl (Nat.le_of_ble_eq_true rfl) h (fun r18 m19 hr18 h => ?_)
        refine xr_aload_n dX12_hasRival_76 rfl ?_
        refine xr_iload_n dX12_hasRival_77 rfl ?_
        refine xr_iload dX12_hasRival_78 rfl ?_
        refine xr_cvI (As := [xi v2, xi v5]) dX12_hasRival_80 mi_X12_letterOf ml_X12_406 se_X12_letterOf L_74 rfl rfl rfl (Nat.le_of_ble_eq_true rfl) h (fun r20 m21 hr20 h => ?_)
        obtain ⟨hT22, hF23⟩ := h
        refine xr_icmp_ne (tgt := 90) dX12_hasRival_83 (by decide) hr18 hr20 (fun c => ?_) (fun c => ?_)
        · have h := hT22 c
          refine xr_iconst dX12_hasRival_90 ?_
          refine xr_istore' (ll' := [some (xr G 74), some (xi v1), some (xi v2), some (xi v3), some (xi 0), some (xi v5)]) dX12_hasRival_91 (by decide) rfl rfl ?_
          refine xr_iinc' (ll' := [some (xr G 74), some (xi v1), some (xi v2), some (xi v3), some (xi 0), some (xi (v5 + 1))]) dX12_hasRival_93 rfl (by decide) rfl rfl ?_
          refine xr_goto (tgt := 38) dX12_hasRival_96 (by decide) ?_
          exact h
        · have h := hF23 c
          refine xr_iconst dX12_hasRival_86 ?_
          refine xr_goto (tgt := 91) dX12_hasRival_87 (by decide) ?_
          refine xr_istore' (ll' := [some (xr G 74), some (xi v1), some (xi v2), some (xi v3), some (xi 1), some (xi v5)]) dX12_hasRival_91 (by decide) rfl rfl ?_
          refine xr_iinc' (ll' := [some (xr G 74), some (xi v1), some (xi v2), some (xi v3), some (xi 1), some (xi (v5 + 1))]) dX12_hasRival_93 rfl (by decide) rfl rfl ?_
          refine xr_goto (tgt := 38) dX12_hasRival_96 (by decide) ?_
          exact h
theorem dX12_quarrels_0 : decode cX12_quarrels 0 = .ok (.iconst 0, 1) := by decide +kernel
theorem dX12_quarrels_1 : decode cX12_quarrels 1 = .ok (.istore 4, 2) := by decide +kernel
theorem dX12_quarrels_3 : decode cX12_quarrels 3 = .ok (.iload 4, 2) := by decide +kernel
theorem dX12_quarrels_5 : decode cX12_quarrels 5 = .ok (.aload_n 0, 1) := by decide +kernel
theorem dX12_quarrels_6 : decode cX12_quarrels 6 = .ok (.getfield 53, 3) := by decide +kernel
theorem dX12_quarrels_9 : decode cX12_quarrels 9 = .ok (.iload_n 1, 1) := by decide +kernel
theorem dX12_quarrels_10 : decode cX12_quarrels 10 = .ok (.iaload, 1) := by decide +kernel
theorem dX12_quarrels_11 : decode cX12_quarrels 11 = .ok (.if_icmp .ge 76, 3) := by decide +kernel
theorem dX12_quarrels_14 : decode cX12_quarrels 14 = .ok (.aload_n 0, 1) := by decide +kernel
theorem dX12_quarrels_15 : decode cX12_quarrels 15 = .ok (.iload_n 1, 1) := by decide +kernel
theorem dX12_quarrels_16 : decode cX12_quarrels 16 = .ok (.iload 4, 2) := by decide +kernel
theorem dX12_quarrels_18 : decode cX12_quarrels 18 = .ok (.invokevirtual 391, 3) := by decide +kernel
theorem dX12_quarrels_21 : decode cX12_quarrels 21 = .ok (.istore 5, 2) := by decide +kernel
theorem dX12_quarrels_23 : decode cX12_quarrels 23 = .ok (.aload_n 0, 1) := by decide +kernel
theorem dX12_quarrels_24 : decode cX12_quarrels 24 = .ok (.iload_n 1, 1) := by decide +kernel
theorem dX12_quarrels_25 : decode cX12_quarrels 25 = .ok (.iload 5, 2) := by decide +kernel
theorem dX12_quarrels_27 : decode cX12_quarrels 27 = .ok (.invokevirtual 409, 3) := by decide +kernel
theorem dX12_quarrels_30 : decode cX12_quarrels 30 = .ok (.istore 6, 2) := by decide +kernel
theorem dX12_quarrels_32 : decode cX12_quarrels 32 = .ok (.iload 6, 2) := by decide +kernel
theorem dX12_quarrels_34 : decode cX12_quarrels 34 = .ok (.ifCond .ge 7, 3) := by decide +kernel
theorem dX12_quarrels_37 : decode cX12_quarrels 37 = .ok (.iconst (-1), 1) := by decide +kernel
theorem dX12_quarrels_38 : decode cX12_quarrels 38 = .ok (.goto 10, 3) := by decide +kernel
theorem dX12_quarrels_41 : decode cX12_quarrels 41 = .ok (.aload_n 0, 1) := by decide +kernel
theorem dX12_quarrels_42 : decode cX12_quarrels 42 = .ok (.iload 6, 2) := by decide +kernel
theorem dX12_quarrels_44 : decode cX12_quarrels 44 = .ok (.iload_n 3, 1) := by decide +kernel
theorem dX12_quarrels_45 : decode cX12_quarrels 45 = .ok (.invokevirtual 449, 3) := by decide +kernel
theorem dX12_quarrels_48 : decode cX12_quarrels 48 = .ok (.istore 7, 2) := by decide +kernel
theorem dX12_quarrels_50 : decode cX12_quarrels 50 = .ok (.iload 7, 2) := by decide +kernel
theorem dX12_quarrels_52 : decode cX12_quarrels 52 = .ok (.ifCond .lt 29, 3) := by decide +kernel
theorem dX12_quarrels_55 : decode cX12_quarrels 55 = .ok (.aload_n 0, 1) := by decide +kernel
theorem dX12_quarrels_56 : decode cX12_quarrels 56 = .ok (.iload 7, 2) := by decide +kernel
theorem dX12_quarrels_58 : decode cX12_quarrels 58 = .ok (.aload_n 0, 1) := by decide +kernel
theorem dX12_quarrels_59 : decode cX12_quarrels 59 = .ok (.iload 6, 2) := by decide +kernel
theorem dX12_quarrels_61 : decode cX12_quarrels 61 = .ok (.iload 5, 2) := by decide +kernel
theorem dX12_quarrels_63 : decode cX12_quarrels 63 = .ok (.invokevirtual 412, 3) := by decide +kernel
theorem dX12_quarrels_66 : decode cX12_quarrels 66 = .ok (.invokevirtual 406, 3) := by decide +kernel
theorem dX12_quarrels_69 : decode cX12_quarrels 69 = .ok (.aload_n 0, 1) := by decide +kernel
theorem dX12_quarrels_70 : decode cX12_quarrels 70 = .ok (.iload_n 2, 1) := by decide +kernel
theorem dX12_quarrels_71 : decode cX12_quarrels 71 = .ok (.iload 4, 2) := by decide +kernel
theorem dX12_quarrels_73 : decode cX12_quarrels 73 = .ok (.invokevirtual 406, 3) := by decide +kernel
theorem dX12_quarrels_76 : decode cX12_quarrels 76 = .ok (.if_icmp .eq 5, 3) := by decide +kernel
theorem dX12_quarrels_79 : decode cX12_quarrels 79 = .ok (.iconst 1, 1) := by decide +kernel
theorem dX12_quarrels_80 : decode cX12_quarrels 80 = .ok (.ireturn, 1) := by decide +kernel
theorem dX12_quarrels_81 : decode cX12_quarrels 81 = .ok (.iinc 4 1, 3) := by decide +kernel
theorem dX12_quarrels_84 : decode cX12_quarrels 84 = .ok (.goto (-81), 3) := by decide +kernel
theorem dX12_quarrels_87 : decode cX12_quarrels 87 = .ok (.iconst 0, 1) := by decide +kernel
theorem dX12_quarrels_88 : decode cX12_quarrels 88 = .ok (.ireturn, 1) := by decide +kernel
def K_X12_quarrels_3 (G : xG) (l : Launch) (d : Nat) (P : Int → xMem → Prop) (v1 v2 v3 v4 : Int) (μ : xMem) : Prop := RR G l d 0 0 false mX12_quarrels (qI P) 3 [some (xr G 74), some (xi v1), some (xi v2), some (xi v3), some (xi v4), none, none, none] [] LAY μ 0 0
def K_X12_quarrels_48 (G : xG) (l : Launch) (d : Nat) (P : Int → xMem → Prop) (v1 v2 v3 v4 v5 v6 s0 : Int) (μ : xMem) : Prop := RR G l d 0 0 false mX12_quarrels (qI P) 48 [some (xr G 74), some (xi v1), some (xi v2), some (xi v3), some (xi v4), some (xi v5), some (xi v6), none] [xi s0] LAY μ 0 0
set_option maxRecDepth 20000 in
theorem E_X12_quarrels {G : xG} {l : Launch} {d : Nat} {P : Int → xMem → Prop} {v1 v2 v3 : Int} {μ : xMem} (h : K_X12_quarrels_3 G l (d + 1) P v1 v2 v3 0 μ) : CI G l (d + 1) mX12_quarrels [xr G 74, xi v1, xi v2, xi v3] μ P := by
  refine CC.ofRR (ll := [some (xr G 74), some (xi v1), some (xi v2), some (xi v3), none, none, none, none]) (by decide +kernel) (Nat.le_of_ble_eq_true rfl) rfl (fun h => by cases h) ?_
  refine xr_iconst dX12_quarrels_0 ?_
  refine xr_istore' (ll' := [some (xr G 74), some (xi v1), some (xi v2), some (xi v3), some (xi 0), none, none, none]) dX12_quarrels_1 (by decide) rfl rfl ?_
  exact h
set_option maxRecDepth 20000 in
theorem B_X12_quarrels_3 {G : xG} {l : Launch} {d : Nat} {P : Int → xMem → Prop} {v1 v2 v3 v4 : Int} {μ : xMem} (h : ((0 ≤ v1 ∧ v1 < 16) ∧ (iR v4 ∧ iR (μ 89 v1) ∧ ((μ 89 v1) ≤ v4 → P 0 μ) ∧ (v4 < (μ 89 v1) → CI G l d mX12_cellOf [xr G 74, xi v1, xi v4] μ (fun r6 m7 => CI G l d mX12_other [xr G 74, xi v1, xi r6] m7 (fun r8 m9 => ((0 ≤ r8 → CI G l d mX12_solutionOf [xr G 74, xi r8, xi v3] m9 (fun r12 m13 => K_X12_quarrels_48 G l (d + 1) P v1 v2 v3 v4 r6 r8 r12 m13)) ∧ (r8 < 0 → K_X12_quarrels_48 G l (d + 1) P v1 v2 v3 v4 r6 r8 (-1) m9)))))))) : K_X12_quarrels_3 G l (d + 1) P v1 v2 v3 v4 μ := by
  unfold K_X12_quarrels_3
  refine xr_iload dX12_quarrels_3 rfl ?_
  refine xr_aload_n dX12_quarrels_5 rfl ?_
  refine xr_getR dX12_quarrels_6 fl_X12_53 L_74 rfl ?_
  refine xr_iload_n dX12_quarrels_9 rfl ?_
  obtain ⟨q1, h⟩ := h
  refine xr_iaload' (v := μ 89 v1) dX12_quarrels_10 L_89 rfl (by decide) q1 rfl ?_
  obtain ⟨q2, q3, hT4, hF5⟩ := h
  refine xr_icmp_ge (tgt := 87) dX12_quarrels_11 (by decide) q2 q3 (fun c => ?_) (fun c => ?_)
  · have h := hT4 c
    refine xr_iconst dX12_quarrels_87 ?_
    exact xr_zret dX12_quarrels_88 rfl (x_nz (by decide)).1 ⟨rfl, _, rfl, x_01 (by decide), h⟩
  · have h := hF5 (Int.not_le.mp c)
    refine xr_aload_n dX12_quarrels_14 rfl ?_
    refine xr_iload_n dX12_quarrels_15 rfl ?_
    refine xr_iload dX12_quarrels_16 rfl ?_
    refine xr_cvI (As := [xi v1, xi v4]) dX12_quarrels_18 mi_X12_cellOf ml_X12_391 se_X12_cellOf L_74 rfl rfl rfl (Nat.le_of_ble_eq_true rfl) h (fun r6 m7 hr6 h => ?_)
    refine xr_istore' (ll' := [some (xr G 74), some (xi v1), some (xi v2), some (xi v3), some (xi v4), some (xi r6), none, none]) dX12_quarrels_21 (by decide) rfl rfl ?_
    refine xr_aload_n dX12_quarrels_23 rfl ?_
    refine xr_iload_n dX12_quarrels_24 rfl ?_
    refine xr_iload dX12_quarrels_25 rfl ?_
    refine xr_cvI (As := [xi v1, xi r6]) dX12_quarrels_27 mi_X12_other ml_X12_409 se_X12_other L_74 rfl rfl rfl (Nat.le_of_ble_eq_true rfl) h (fun r8 m9 hr8 h => ?_)
    refine xr_istore' (ll' := [some (xr G 74), some (xi v1), some (xi v2), some (xi v3), some (xi v4), some (xi r6), some (xi r8), none]) dX12_quarrels_30 (by decide) rfl rfl ?_
    refine xr_iload dX12_quarrels_32 rfl ?_
    obtain ⟨hT10, hF11⟩ := h
    refine xr_if_ge (tgt := 41) dX12_quarrels_34 (by decide) hr8  (fun c => ?_) (fun c => ?_)
    · have h := hT10 c
      refine xr_aload_n dX12_quarrels_41 rfl ?_
      refine xr_iload dX12_quarrels_42 rfl ?_
      refine xr_iload_n dX12_quarrels_44 rfl ?_
      refine xr_cvI (As := [xi r8, xi v3]) dX12_quarrels_45 mi_X12_solutionOf ml_X12_449 se_X12_solutionOf L_74 rfl rfl rfl (Nat.le_of_ble_eq_true rfl) h (fun r12 m13 hr12 h => ?_)
      exact h
    · have h := hF11 (Int.not_le.mp c)
      refine xr_iconst dX12_quarrels_37 ?_
      refine xr_goto (tgt := 48) dX12_quarrels_38 (by decide) ?_
      exact h
set_option maxRecDepth 20000 in
theorem B_X12_quarrels_48 {G : xG} {l : Launch} {d : Nat} {P : Int → xMem → Prop} {v1 v2 v3 v4 v5 v6 s0 : Int} {μ : xMem} (h : (iR s0 ∧ (s0 < 0 → K_X12_quarrels_3 G l (d + 1) P v1 v2 v3 (v4 + 1) μ) ∧ (0 ≤ s0 → CI G l d mX12_placeIn [xr G 74, xi v6, xi v5] μ (fun r4 m5 => CI G l d mX12_letterOf [xr G 74, xi s0, xi r4] m5 (fun r6 m7 => CI G l d mX12_letterOf [xr G 74, xi v2, xi v4] m7 (fun r8 m9 => ((r6 = r8 → K_X12_quarrels_3 G l (d + 1) P v1 v2 v3 (v4 + 1) m9) ∧ (r6 ≠ r8 → P 1 m9)))))))) : K_X12_quarrels_48 G l (d + 1) P v1 v2 v3 v4 v5 v6 s0 μ := by
  unfold K_X12_quarrels_48
  refine xr_istore' (ll' := [some (xr G 74), some (xi v1), some (xi v2), some (xi v3), some (xi v4), some (xi v5), some (xi v6), some (xi s0)]) dX12_quarrels_48 (by decide) rfl rfl ?_
  refine xr_iload dX12_quarrels_50 rfl ?_
  obtain ⟨q1, hT2, hF3⟩ := h
  refine xr_if_lt (tgt := 81) dX12_quarrels_52 (by decide) q1  (fun c => ?_) (fun c => ?_)
  · have h := hT2 c
    refine xr_iinc' (ll' := [some (xr G 74), some (xi v1), some (xi v2), some (xi v3), some (xi (v4 + 1)), some (xi v5), some (xi v6), some (xi s0)]) dX12_quarrels_81 rfl (by decide) rfl rfl ?_
    refine xr_goto (tgt := 3) dX12_quarrels_84 (by decide) ?_
    refine xr_wk (ll' := [some (xr G 74), some (xi v1), some (xi v2), some (xi v3), some (xi (v4 + 1)), none, none, none]) ⟨rfl, ⟨rfl, ⟨rfl, ⟨rfl, ⟨rfl, trivial⟩⟩⟩⟩⟩ ?_
    exact h
  · have h := hF3 (Int.not_lt.mp c)
    refine xr_aload_n dX12_quarrels_55 rfl ?_
    refine xr_iload dX12_quarrels_56 rfl ?_
    refine xr_aload_n dX12_quarrels_58 rfl ?_
    refine xr_iload dX12_quarrels_59 rfl ?_
    refine xr_iload dX12_quarrels_61 rfl ?_
    refine xr_cvI (As := [xi v6, xi v5]) dX12_quarrels_63 mi_X12_placeIn ml_X12_412 se_X12_placeIn L_74 rfl rfl rfl (Nat.le_of_ble_eq_true rfl) h (fun r4 m5 hr4 h => ?_)
    refine xr_cvI (As := [xi s0, xi r4]) dX12_quarrels_66 mi_X12_letterOf ml_X12_406 se_X12_letterOf L_74 rfl rfl rfl (Nat.le_of_ble_eq_true rfl) h (fun r6 m7 hr6 h => ?_)
    refine xr_aload_n dX12_quarrels_69 rfl ?_
    refine xr_iload_n dX12_quarrels_70 rfl ?_
    refine xr_iload dX12_quarrels_71 rfl ?_
    refine xr_cvI (As := [xi v2, xi v4]) dX12_quarrels_73 mi_X12_letterOf ml_X12_406 se_X12_letterOf L_74 rfl rfl rfl (Nat.le_of_ble_eq_true rfl) h (fun r8 m9 hr8 h => ?_)
    obtain ⟨hT10, hF11⟩ := h
    refine xr_icmp_eq (tgt := 81) dX12_quarrels_76 (by decide) hr6 hr8 (fun c => ?_) (fun c => ?_)
    · have h := hT10 c
      refine xr_iinc' (ll' := [some (xr G 74), some (xi v1), some (xi v2), some (xi v3), some (xi (v4 + 1)), some (xi v5), some (xi v6), some (xi s0)]) dX12_quarrels_81 rfl (by decide) rfl rfl ?_
      refine xr_goto (tgt := 3) dX12_quarrels_84 (by decide) ?_
      refine xr_wk (ll' := [some (xr G 74), some (xi v1), some (xi v2), some (xi v3), some (xi (v4 + 1)), none, none, none]) ⟨rfl, ⟨rfl, ⟨rfl, ⟨rfl, ⟨rfl, trivial⟩⟩⟩⟩⟩ ?_
      exact h
    · have h := hF11 c
      refine xr_iconst dX12_quarrels_79 ?_
      exact xr_zret dX12_quarrels_80 rfl (x_nz (by decide)).1 ⟨rfl, _, rfl, x_01 (by decide), h⟩
theorem dX12_unfair_0 : decode cX12_unfair 0 = .ok (.aload_n 0, 1) := by decide +kernel
theorem dX12_unfair_1 : decode cX12_unfair 1 = .ok (.iconst 0, 1) := by decide +kernel
theorem dX12_unfair_2 : decode cX12_unfair 2 = .ok (.putfield 185, 3) := by decide +kernel
theorem dX12_unfair_5 : decode cX12_unfair 5 = .ok (.aload_n 0, 1) := by decide +kernel
theorem dX12_unfair_6 : decode cX12_unfair 6 = .ok (.iload_n 1, 1) := by decide +kernel
theorem dX12_unfair_7 : decode cX12_unfair 7 = .ok (.invokevirtual 388, 3) := by decide +kernel
theorem dX12_unfair_10 : decode cX12_unfair 10 = .ok (.aload_n 0, 1) := by decide +kernel
theorem dX12_unfair_11 : decode cX12_unfair 11 = .ok (.iconst 0, 1) := by decide +kernel
theorem dX12_unfair_12 : decode cX12_unfair 12 = .ok (.putfield 446, 3) := by decide +kernel
theorem dX12_unfair_15 : decode cX12_unfair 15 = .ok (.iconst 0, 1) := by decide +kernel
theorem dX12_unfair_16 : decode cX12_unfair 16 = .ok (.istore_n 2, 1) := by decide +kernel
theorem dX12_unfair_17 : decode cX12_unfair 17 = .ok (.iload_n 2, 1) := by decide +kernel
theorem dX12_unfair_18 : decode cX12_unfair 18 = .ok (.bipush 16, 2) := by decide +kernel
theorem dX12_unfair_20 : decode cX12_unfair 20 = .ok (.if_icmp .ge 168, 3) := by decide +kernel
theorem dX12_unfair_23 : decode cX12_unfair 23 = .ok (.aload_n 0, 1) := by decide +kernel
theorem dX12_unfair_24 : decode cX12_unfair 24 = .ok (.getfield 146, 3) := by decide +kernel
theorem dX12_unfair_27 : decode cX12_unfair 27 = .ok (.iload_n 2, 1) := by decide +kernel
theorem dX12_unfair_28 : decode cX12_unfair 28 = .ok (.baload, 1) := by decide +kernel
theorem dX12_unfair_29 : decode cX12_unfair 29 = .ok (.ifCond .ne 6, 3) := by decide +kernel
theorem dX12_unfair_32 : decode cX12_unfair 32 = .ok (.goto 150, 3) := by decide +kernel
theorem dX12_unfair_35 : decode cX12_unfair 35 = .ok (.aload_n 0, 1) := by decide +kernel
theorem dX12_unfair_36 : decode cX12_unfair 36 = .ok (.iload_n 2, 1) := by decide +kernel
theorem dX12_unfair_37 : decode cX12_unfair 37 = .ok (.iload_n 1, 1) := by decide +kernel
theorem dX12_unfair_38 : decode cX12_unfair 38 = .ok (.invokevirtual 449, 3) := by decide +kernel
theorem dX12_unfair_41 : decode cX12_unfair 41 = .ok (.istore_n 3, 1) := by decide +kernel
theorem dX12_unfair_42 : decode cX12_unfair 42 = .ok (.iload_n 3, 1) := by decide +kernel
theorem dX12_unfair_43 : decode cX12_unfair 43 = .ok (.ifCond .ge 9, 3) := by decide +kernel
theorem dX12_unfair_46 : decode cX12_unfair 46 = .ok (.aload_n 0, 1) := by decide +kernel
theorem dX12_unfair_47 : decode cX12_unfair 47 = .ok (.iconst 1, 1) := by decide +kernel
theorem dX12_unfair_48 : decode cX12_unfair 48 = .ok (.iload_n 2, 1) := by decide +kernel
theorem dX12_unfair_49 : decode cX12_unfair 49 = .ok (.invokevirtual 452, 3) := by decide +kernel
theorem dX12_unfair_52 : decode cX12_unfair 52 = .ok (.iload_n 3, 1) := by decide +kernel
theorem dX12_unfair_53 : decode cX12_unfair 53 = .ok (.ifCond .lt 23, 3) := by decide +kernel
theorem dX12_unfair_56 : decode cX12_unfair 56 = .ok (.aload_n 0, 1) := by decide +kernel
theorem dX12_unfair_57 : decode cX12_unfair 57 = .ok (.getfield 119, 3) := by decide +kernel
theorem dX12_unfair_60 : decode cX12_unfair 60 = .ok (.bipush 120, 2) := by decide +kernel
theorem dX12_unfair_62 : decode cX12_unfair 62 = .ok (.iload_n 2, 1) := by decide +kernel
theorem dX12_unfair_63 : decode cX12_unfair 63 = .ok (.imul, 1) := by decide +kernel
theorem dX12_unfair_64 : decode cX12_unfair 64 = .ok (.iload_n 3, 1) := by decide +kernel
theorem dX12_unfair_65 : decode cX12_unfair 65 = .ok (.iadd, 1) := by decide +kernel
theorem dX12_unfair_66 : decode cX12_unfair 66 = .ok (.baload, 1) := by decide +kernel
theorem dX12_unfair_67 : decode cX12_unfair 67 = .ok (.ifCond .ne 9, 3) := by decide +kernel
theorem dX12_unfair_70 : decode cX12_unfair 70 = .ok (.aload_n 0, 1) := by decide +kernel
theorem dX12_unfair_71 : decode cX12_unfair 71 = .ok (.iconst 2, 1) := by decide +kernel
theorem dX12_unfair_72 : decode cX12_unfair 72 = .ok (.iload_n 2, 1) := by decide +kernel
theorem dX12_unfair_73 : decode cX12_unfair 73 = .ok (.invokevirtual 452, 3) := by decide +kernel
theorem dX12_unfair_76 : decode cX12_unfair 76 = .ok (.iload_n 3, 1) := by decide +kernel
theorem dX12_unfair_77 : decode cX12_unfair 77 = .ok (.ifCond .lt 18, 3) := by decide +kernel
theorem dX12_unfair_80 : decode cX12_unfair 80 = .ok (.aload_n 0, 1) := by decide +kernel
theorem dX12_unfair_81 : decode cX12_unfair 81 = .ok (.iload_n 2, 1) := by decide +kernel
theorem dX12_unfair_82 : decode cX12_unfair 82 = .ok (.iload_n 3, 1) := by decide +kernel
theorem dX12_unfair_83 : decode cX12_unfair 83 = .ok (.invokevirtual 455, 3) := by decide +kernel
theorem dX12_unfair_86 : decode cX12_unfair 86 = .ok (.ifCond .eq 9, 3) := by decide +kernel
theorem dX12_unfair_89 : decode cX12_unfair 89 = .ok (.aload_n 0, 1) := by decide +kernel
theorem dX12_unfair_90 : decode cX12_unfair 90 = .ok (.iconst 3, 1) := by decide +kernel
theorem dX12_unfair_91 : decode cX12_unfair 91 = .ok (.iload_n 2, 1) := by decide +kernel
theorem dX12_unfair_92 : decode cX12_unfair 92 = .ok (.invokevirtual 452, 3) := by decide +kernel
theorem dX12_unfair_95 : decode cX12_unfair 95 = .ok (.iconst 0, 1) := by decide +kernel
theorem dX12_unfair_96 : decode cX12_unfair 96 = .ok (.istore 4, 2) := by decide +kernel
theorem dX12_unfair_98 : decode cX12_unfair 98 = .ok (.iconst 0, 1) := by decide +kernel
theorem dX12_unfair_99 : decode cX12_unfair 99 = .ok (.istore 5, 2) := by decide +kernel
theorem dX12_unfair_101 : decode cX12_unfair 101 = .ok (.iload 5, 2) := by decide +kernel
theorem dX12_unfair_103 : decode cX12_unfair 103 = .ok (.aload_n 0, 1) := by decide +kernel
theorem dX12_unfair_104 : decode cX12_unfair 104 = .ok (.getfield 53, 3) := by decide +kernel
theorem dX12_unfair_107 : decode cX12_unfair 107 = .ok (.iload_n 2, 1) := by decide +kernel
theorem dX12_unfair_108 : decode cX12_unfair 108 = .ok (.iaload, 1) := by decide +kernel
theorem dX12_unfair_109 : decode cX12_unfair 109 = .ok (.if_icmp .ge 34, 3) := by decide +kernel
theorem dX12_unfair_112 : decode cX12_unfair 112 = .ok (.iload 4, 2) := by decide +kernel
theorem dX12_unfair_114 : decode cX12_unfair 114 = .ok (.aload_n 0, 1) := by decide +kernel
theorem dX12_unfair_115 : decode cX12_unfair 115 = .ok (.iload_n 2, 1) := by decide +kernel
theorem dX12_unfair_116 : decode cX12_unfair 116 = .ok (.aload_n 0, 1) := by decide +kernel
theorem dX12_unfair_117 : decode cX12_unfair 117 = .ok (.iload_n 2, 1) := by decide +kernel
theorem dX12_unfair_118 : decode cX12_unfair 118 = .ok (.iload 5, 2) := by decide +kernel
theorem dX12_unfair_120 : decode cX12_unfair 120 = .ok (.invokevirtual 391, 3) := by decide +kernel
theorem dX12_unfair_123 : decode cX12_unfair 123 = .ok (.invokevirtual 409, 3) := by decide +kernel
theorem dX12_unfair_126 : decode cX12_unfair 126 = .ok (.ifCond .lt 7, 3) := by decide +kernel
theorem dX12_unfair_129 : decode cX12_unfair 129 = .ok (.iconst 1, 1) := by decide +kernel
theorem dX12_unfair_130 : decode cX12_unfair 130 = .ok (.goto 4, 3) := by decide +kernel
theorem dX12_unfair_133 : decode cX12_unfair 133 = .ok (.iconst 0, 1) := by decide +kernel
theorem dX12_unfair_134 : decode cX12_unfair 134 = .ok (.iadd, 1) := by decide +kernel
theorem dX12_unfair_135 : decode cX12_unfair 135 = .ok (.istore 4, 2) := by decide +kernel
theorem dX12_unfair_137 : decode cX12_unfair 137 = .ok (.iinc 5 1, 3) := by decide +kernel
theorem dX12_unfair_140 : decode cX12_unfair 140 = .ok (.goto (-39), 3) := by decide +kernel
theorem dX12_unfair_143 : decode cX12_unfair 143 = .ok (.iconst 2, 1) := by decide +kernel
theorem dX12_unfair_144 : decode cX12_unfair 144 = .ok (.iload 4, 2) := by decide +kernel
theorem dX12_unfair_146 : decode cX12_unfair 146 = .ok (.imul, 1) := by decide +kernel
theorem dX12_unfair_147 : decode cX12_unfair 147 = .ok (.aload_n 0, 1) := by decide +kernel
theorem dX12_unfair_148 : decode cX12_unfair 148 = .ok (.getfield 53, 3) := by decide +kernel
theorem dX12_unfair_151 : decode cX12_unfair 151 = .ok (.iload_n 2, 1) := by decide +kernel
theorem dX12_unfair_152 : decode cX12_unfair 152 = .ok (.iaload, 1) := by decide +kernel
theorem dX12_unfair_153 : decode cX12_unfair 153 = .ok (.if_icmp .ge 9, 3) := by decide +kernel
theorem dX12_unfair_156 : decode cX12_unfair 156 = .ok (.aload_n 0, 1) := by decide +kernel
theorem dX12_unfair_157 : decode cX12_unfair 157 = .ok (.iconst 4, 1) := by decide +kernel
theorem dX12_unfair_158 : decode cX12_unfair 158 = .ok (.iload_n 2, 1) := by decide +kernel
theorem dX12_unfair_159 : decode cX12_unfair 159 = .ok (.invokevirtual 452, 3) := by decide +kernel
theorem dX12_unfair_162 : decode cX12_unfair 162 = .ok (.iload_n 3, 1) := by decide +kernel
theorem dX12_unfair_163 : decode cX12_unfair 163 = .ok (.ifCond .lt 19, 3) := by decide +kernel
theorem dX12_unfair_166 : decode cX12_unfair 166 = .ok (.aload_n 0, 1) := by decide +kernel
theorem dX12_unfair_167 : decode cX12_unfair 167 = .ok (.iload_n 2, 1) := by decide +kernel
theorem dX12_unfair_168 : decode cX12_unfair 168 = .ok (.iload_n 3, 1) := by decide +kernel
theorem dX12_unfair_169 : decode cX12_unfair 169 = .ok (.iload_n 1, 1) := by decide +kernel
theorem dX12_unfair_170 : decode cX12_unfair 170 = .ok (.invokevirtual 458, 3) := by decide +kernel
theorem dX12_unfair_173 : decode cX12_unfair 173 = .ok (.ifCond .eq 9, 3) := by decide +kernel
theorem dX12_unfair_176 : decode cX12_unfair 176 = .ok (.aload_n 0, 1) := by decide +kernel
theorem dX12_unfair_177 : decode cX12_unfair 177 = .ok (.iconst 5, 1) := by decide +kernel
theorem dX12_unfair_178 : decode cX12_unfair 178 = .ok (.iload_n 2, 1) := by decide +kernel
theorem dX12_unfair_179 : decode cX12_unfair 179 = .ok (.invokevirtual 452, 3) := by decide +kernel
theorem dX12_unfair_182 : decode cX12_unfair 182 = .ok (.iinc 2 1, 3) := by decide +kernel
theorem dX12_unfair_185 : decode cX12_unfair 185 = .ok (.goto (-168), 3) := by decide +kernel
theorem dX12_unfair_188 : decode cX12_unfair 188 = .ok (.aload_n 0, 1) := by decide +kernel
theorem dX12_unfair_189 : decode cX12_unfair 189 = .ok (.getfield 446, 3) := by decide +kernel
theorem dX12_unfair_192 : decode cX12_unfair 192 = .ok (.ireturn, 1) := by decide +kernel
def K_X12_unfair_17 (G : xG) (l : Launch) (d : Nat) (P : Int → xMem → Prop) (v1 v2 : Int) (μ : xMem) : Prop := RR G l d 0 0 false mX12_unfair (qI P) 17 [some (xr G 74), some (xi v1), some (xi v2), none, none, none] [] LAY μ 0 0
def K_X12_unfair_52 (G : xG) (l : Launch) (d : Nat) (P : Int → xMem → Prop) (v1 v2 v3 : Int) (μ : xMem) : Prop := RR G l d 0 0 false mX12_unfair (qI P) 52 [some (xr G 74), some (xi v1), some (xi v2), some (xi v3), none, none] [] LAY μ 0 0
def K_X12_unfair_76 (G : xG) (l : Launch) (d : Nat) (P : Int → xMem → Prop) (v1 v2 v3 : Int) (μ : xMem) : Prop := RR G l d 0 0 false mX12_unfair (qI P) 76 [some (xr G 74), some (xi v1), some (xi v2), some (xi v3), none, none] [] LAY μ 0 0
def K_X12_unfair_101 (G : xG) (l : Launch) (d : Nat) (P : Int → xMem → Prop) (v1 v2 v3 v4 v5 : Int) (μ : xMem) : Prop := RR G l d 0 0 false mX12_unfair (qI P) 101 [some (xr G 74), some (xi v1), some (xi v2), some (xi v3), some (xi v4), some (xi v5)] [] LAY μ 0 0
def K_X12_unfair_162 (G : xG) (l : Launch) (d : Nat) (P : Int → xMem → Prop) (v1 v2 v3 : Int) (μ : xMem) : Prop := RR G l d 0 0 false mX12_unfair (qI P) 162 [some (xr G 74), some (xi v1), some (xi v2), some (xi v3), none, none] [] LAY μ 0 0
set_option maxRecDepth 20000 in
theorem E_X12_unfair {G : xG} {l : Launch} {d : Nat} {P : Int → xMem → Prop} {v1 : Int} {μ : xMem} (h : CV G l d mX12_find [xr G 74, xi v1] (st2 μ 74 0 0) (fun m2 => K_X12_unfair_17 G l (d + 1) P v1 0 (st2 m2 74 76 0))) : CI G l (d + 1) mX12_unfair [xr G 74, xi v1] μ P := by
  refine CC.ofRR (ll := [some (xr G 74), some (xi v1), none, none, none, none]) (by decide +kernel) (Nat.le_of_ble_eq_true rfl) rfl (fun h => by cases h) ?_
  refine xr_aload_n dX12_unfair_0 rfl ?_
  refine xr_iconst dX12_unfair_1 ?_
  refine xr_putI dX12_unfair_2 fp_X12_185 L_74 rfl rfl ⟨rfl, rfl⟩ ?_
  refine xr_aload_n dX12_unfair_5 rfl ?_
  refine xr_iload_n dX12_unfair_6 rfl ?_
  refine xr_cvV (As := [xi v1]) dX12_unfair_7 mi_X12_find ml_X12_388 se_X12_find L_74 rfl rfl rfl (Nat.le_of_ble_eq_true rfl) h (fun m2 h => ?_)
  refine xr_aload_n dX12_unfair_10 rfl ?_
  refine xr_iconst dX12_unfair_11 ?_
  refine xr_putI dX12_unfair_12 fp_X12_446 L_74 rfl rfl ⟨rfl, rfl⟩ ?_
  refine xr_iconst dX12_unfair_15 ?_
  refine xr_istore_n' (ll' := [some (xr G 74), some (xi v1), some (xi 0), none, none, none]) dX12_unfair_16 (by decide) rfl rfl ?_
  exact h
set_option maxRecDepth 20000 in
theorem B_X12_unfair_17 {G : xG} {l : Launch} {d : Nat} {P : Int → xMem → Prop} {v1 v2 : Int} {μ : xMem} (h : (iR v2 ∧ (16 ≤ v2 → (iR (μ 74 76) ∧ P (μ 74 76) μ)) ∧ (v2 < 16 → ((0 ≤ v2 ∧ v2 < 16) ∧ (iR (μ 117 v2) ∧ ((μ 117 v2) ≠ 0 → CI G l d mX12_solutionOf [xr G 74, xi v2, xi v1] μ (fun r9 m10 => ((0 ≤ r9 → K_X12_unfair_52 G l (d + 1) P v1 v2 r9 m10) ∧ (r9 < 0 → CV G l d mX12_note [xr G 74, xi 1, xi v2] m10 (fun m14 => K_X12_unfair_52 G l (d + 1) P v1 v2 r9 m14))))) ∧ ((μ 117 v2) = 0 → K_X12_unfair_17 G l (d + 1) P v1 (v2 + 1) μ)))))) : K_X12_unfair_17 G l (d + 1) P v1 v2 μ := by
  unfold K_X12_unfair_17
  refine xr_iload_n dX12_unfair_17 rfl ?_
  refine xr_bipush dX12_unfair_18 (by decide) ?_
  obtain ⟨q1, hT2, hF3⟩ := h
  refine xr_icmp_ge (tgt := 188) dX12_unfair_20 (by decide) q1 (by decide) (fun c => ?_) (fun c => ?_)
  · have h := hT2 c
    refine xr_aload_n dX12_unfair_188 rfl ?_
    refine xr_getI' (v := μ 74 76) dX12_unfair_189 fl_X12_446 L_74 rfl rfl rfl ?_
    obtain ⟨q4, h⟩ := h
    exact xr_iret dX12_unfair_192 rfl ⟨rfl, _, rfl, q4, h⟩
  · have h := hF3 (Int.not_le.mp c)
    refine xr_aload_n dX12_unfair_23 rfl ?_
    refine xr_getR dX12_unfair_24 fl_X12_146 L_74 rfl ?_
    refine xr_iload_n dX12_unfair_27 rfl ?_
    obtain ⟨q5, h⟩ := h
    refine xr_zaload' (v := μ 117 v2) dX12_unfair_28 L_117 rfl (by decide) q5 rfl ?_
    obtain ⟨q6, hT7, hF8⟩ := h
    refine xr_if_ne (tgt := 35) dX12_unfair_29 (by decide) q6  (fun c => ?_) (fun c => ?_)
    · have h := hT7 c
      refine xr_aload_n dX12_unfair_35 rfl ?_
      refine xr_iload_n dX12_unfair_36 rfl ?_
      refine xr_iload_n dX12_unfair_37 rfl ?_
      refine xr_cvI (As := [xi v2, xi v1]) dX12_unfair_38 mi_X12_solutionOf ml_X12_449 se_X12_solutionOf L_74 rfl rfl rfl (Nat.le_of_ble_eq_true rfl) h (fun r9 m10 hr9 h => ?_)
      refine xr_istore_n' (ll' := [some (xr G 74), some (xi v1), some (xi v2), some (xi r9), none, none]) dX12_unfair_41 (by decide) rfl rfl ?_
      refine xr_iload_n dX12_unfair_42 rfl ?_
      obtain ⟨hT11, hF12⟩ := h
      refine xr_if_ge (tgt := 52) dX12_unfair_43 (by decide) hr9  (fun c => ?_) (fun c => ?_)
      · have h := hT11 c
        exact h
      · have h := hF12 (Int.not_le.mp c)
        refine xr_aload_n dX12_unfair_46 rfl ?_
        refine xr_iconst dX12_unfair_47 ?_
        refine xr_iload_n dX12_unfair_48 rfl ?_
        refine xr_cvV (As := [xi 1, xi v2]) dX12_unfair_49 mi_X12_note ml_X12_452 se_X12_note L_74 rfl rfl rfl (Nat.le_of_ble_eq_true rfl) h (fun m14 h => ?_)
        exact h
    · have h := hF8 c
      refine xr_goto (tgt := 182) dX12_unfair_32 (by decide) ?_
      refine xr_iinc' (ll' := [some (xr G 74), some (xi v1), some (xi (v2 + 1)), none, none, none]) dX12_unfair_182 rfl (by decide) rfl rfl ?_
      refine xr_goto (tgt := 17) dX12_unfair_185 (by decide) ?_
      exact h
set_option maxRecDepth 20000 in
theorem B_X12_unfair_52 {G : xG} {l : Launch} {d : Nat} {P : Int → xMem → Prop} {v1 v2 v3 : Int} {μ : xMem} (h : (iR v3 ∧ (v3 < 0 → K_X12_unfair_76 G l (d + 1) P v1 v2 v3 μ) ∧ (0 ≤ v3 → ((0 ≤ (120 * v2) + v3 ∧ (120 * v2) + v3 < 1920) ∧ (iR (μ 108 ((120 * v2) + v3)) ∧ ((μ 108 ((120 * v2) + v3)) ≠ 0 → K_X12_unfair_76 G l (d + 1) P v1 v2 v3 μ) ∧ ((μ 108 ((120 * v2) + v3)) = 0 → CV G l d mX12_note [xr G 74, xi 2, xi v2] μ (fun m9 => K_X12_unfair_76 G l (d + 1) P v1 v2 v3 m9))))))) : K_X12_unfair_52 G l (d + 1) P v1 v2 v3 μ := by
  unfold K_X12_unfair_52
  refine xr_iload_n dX12_unfair_52 rfl ?_
  obtain ⟨q1, hT2, hF3⟩ := h
  refine xr_if_lt (tgt := 76) dX12_unfair_53 (by decide) q1  (fun c => ?_) (fun c => ?_)
  · have h := hT2 c
    exact h
  · have h := hF3 (Int.not_lt.mp c)
    refine xr_aload_n dX12_unfair_56 rfl ?_
    refine xr_getR dX12_unfair_57 fl_X12_119 L_74 rfl ?_
    refine xr_bipush dX12_unfair_60 (by decide) ?_
    refine xr_iload_n dX12_unfair_62 rfl ?_
    refine xr_imul dX12_unfair_63 ?_
    refine xr_iload_n dX12_unfair_64 rfl ?_
    refine xr_iadd dX12_unfair_65 ?_
    obtain ⟨q4, h⟩ := h
    refine xr_zaload' (v := μ 108 ((120 * v2) + v3)) dX12_unfair_66 L_108 rfl (by decide) q4 rfl ?_
    obtain ⟨q5, hT6, hF7⟩ := h
    refine xr_if_ne (tgt := 76) dX12_unfair_67 (by decide) q5  (fun c => ?_) (fun c => ?_)
    · have h := hT6 c
      exact h
    · have h := hF7 c
      refine xr_aload_n dX12_unfair_70 rfl ?_
      refine xr_iconst dX12_unfair_71 ?_
      refine xr_iload_n dX12_unfair_72 rfl ?_
      refine xr_cvV (As := [xi 2, xi v2]) dX12_unfair_73 mi_X12_note ml_X12_452 se_X12_note L_74 rfl rfl rfl (Nat.le_of_ble_eq_true rfl) h (fun m9 h => ?_)
      exact h
set_option maxRecDepth 20000 in
theorem B_X12_unfair_76 {G : xG} {l : Launch} {d : Nat} {P : Int → xMem → Prop} {v1 v2 v3 : Int} {μ : xMem} (h : (iR v3 ∧ (v3 < 0 → K_X12_unfair_101 G l (d + 1) P v1 v2 v3 0 0 μ) ∧ (0 ≤ v3 → CI G l d mX12_hasRival [xr G 74, xi v2, xi v3] μ (fun r4 m5 => ((r4 = 0 → K_X12_unfair_101 G l (d + 1) P v1 v2 v3 0 0 m5) ∧ (r4 ≠ 0 → CV G l d mX12_note [xr G 74, xi 3, xi v2] m5 (fun m9 => K_X12_unfair_101 G l (d + 1) P v1 v2 v3 0 0 m9))))))) : K_X12_unfair_76 G l (d + 1) P v1 v2 v3 μ := by
  unfold K_X12_unfair_76
  refine xr_iload_n dX12_unfair_76 rfl ?_
  obtain ⟨q1, hT2, hF3⟩ := h
  refine xr_if_lt (tgt := 95) dX12_unfair_77 (by decide) q1  (fun c => ?_) (fun c => ?_)
  · have h := hT2 c
    refine xr_iconst dX12_unfair_95 ?_
    refine xr_istore' (ll' := [some (xr G 74), some (xi v1), some (xi v2), some (xi v3), some (xi 0), none]) dX12_unfair_96 (by decide) rfl rfl ?_
    refine xr_iconst dX12_unfair_98 ?_
    refine xr_istore' (ll' := [some (xr G 74), some (xi v1), some (xi v2), some (xi v3), some (xi 0), some (xi 0)]) dX12_unfair_99 (by decide) rfl rfl ?_
    exact h
  · have h := hF3 (Int.not_lt.mp c)
    refine xr_aload_n dX12_unfair_80 rfl ?_
    refine xr_iload_n dX12_unfair_81 rfl ?_
    refine xr_iload_n dX12_unfair_82 rfl ?_
    refine xr_cvI (As := [xi v2, xi v3]) dX12_unfair_83 mi_X12_hasRival ml_X12_455 se_X12_hasRival L_74 rfl rfl rfl (Nat.le_of_ble_eq_true rfl) h (fun r4 m5 hr4 h => ?_)
    obtain ⟨hT6, hF7⟩ := h
    refine xr_if_eq (tgt := 95) dX12_unfair_86 (by decide) hr4  (fun c => ?_) (fun c => ?_)
    · have h := hT6 c
      refine xr_iconst dX12_unfair_95 ?_
      refine xr_istore' (ll' := [some (xr G 74), some (xi v1), some (xi v2), some (xi v3), some (xi 0), none]) dX12_unfair_96 (by decide) rfl rfl ?_
      refine xr_iconst dX12_unfair_98 ?_
      refine xr_istore' (ll' := [some (xr G 74), some (xi v1), some (xi v2), some (xi v3), some (xi 0), some (xi 0)]) dX12_unfair_99 (by decide) rfl rfl ?_
      exact h
    · have h := hF7 c
      refine xr_aload_n dX12_unfair_89 rfl ?_
      refine xr_iconst dX12_unfair_90 ?_
      refine xr_iload_n dX12_unfair_91 rfl ?_
      refine xr_cvV (As := [xi 3, xi v2]) dX12_unfair_92 mi_X12_note ml_X12_452 se_X12_note L_74 rfl rfl rfl (Nat.le_of_ble_eq_true rfl) h (fun m9 h => ?_)
      refine xr_iconst dX12_unfair_95 ?_
      refine xr_istore' (ll' := [some (xr G 74), some (xi v1), some (xi v2), some (xi v3), some (xi 0), none]) dX12_unfair_96 (by decide) rfl rfl ?_
      refine xr_iconst dX12_unfair_98 ?_
      refine xr_istore' (ll' := [some (xr G 74), some (xi v1), some (xi v2), some (xi v3), some (xi 0), some (xi 0)]) dX12_unfair_99 (by decide) rfl rfl ?_
      exact h
set_option maxRecDepth 20000 in
theorem B_X12_unfair_101 {G : xG} {l : Launch} {d : Nat} {P : Int → xMem → Prop} {v1 v2 v3 v4 v5 : Int} {μ : xMem} (h : ((0 ≤ v2 ∧ v2 < 16) ∧ (iR v5 ∧ iR (μ 89 v2) ∧ ((μ 89 v2) ≤ v5 → (iR (2 * v4) ∧ ((μ 89 v2) ≤ (2 * v4) → K_X12_unfair_162 G l (d + 1) P v1 v2 v3 μ) ∧ ((2 * v4) < (μ 89 v2) → CV G l d mX12_note [xr G 74, xi 4, xi v2] μ (fun m10 => K_X12_unfair_162 G l (d + 1) P v1 v2 v3 m10)))) ∧ (v5 < (μ 89 v2) → CI G l d mX12_cellOf [xr G 74, xi v2, xi v5] μ (fun r11 m12 => CI G l d mX12_other [xr G 74, xi v2, xi r11] m12 (fun r13 m14 => ((r13 < 0 → K_X12_unfair_101 G l (d + 1) P v1 v2 v3 (v4 + 0) (v5 + 1) m14) ∧ (0 ≤ r13 → K_X12_unfair_101 G l (d + 1) P v1 v2 v3 (v4 + 1) (v5 + 1) m14)))))))) : K_X12_unfair_101 G l (d + 1) P v1 v2 v3 v4 v5 μ := by
  unfold K_X12_unfair_101
  refine xr_iload dX12_unfair_101 rfl ?_
  refine xr_aload_n dX12_unfair_103 rfl ?_
  refine xr_getR dX12_unfair_104 fl_X12_53 L_74 rfl ?_
  refine xr_iload_n dX12_unfair_107 rfl ?_
  obtain ⟨q1, h⟩ := h
  refine xr_iaload' (v := μ 89 v2) dX12_unfair_108 L_89 rfl (by decide) q1 rfl ?_
  obtain ⟨q2, q3, hT4, hF5⟩ := h
  refine xr_icmp_ge (tgt := 143) dX12_unfair_109 (by decide) q2 q3 (fun c => ?_) (fun c => ?_)
  · have h := hT4 c
    refine xr_iconst dX12_unfair_143 ?_
    refine xr_iload dX12_unfair_144 rfl ?_
    refine xr_imul dX12_unfair_146 ?_
    refine xr_aload_n dX12_unfair_147 rfl ?_
    refine xr_getR dX12_unfair_148 fl_X12_53 L_74 rfl ?_
    refine xr_iload_n dX12_unfair_151 rfl ?_
    refine xr_iaload' (v := μ 89 v2) dX12_unfair_152 L_89 rfl (by decide) q1 rfl ?_
    obtain ⟨q6, hT7, hF8⟩ := h
    refine xr_icmp_ge (tgt := 162) dX12_unfair_153 (by decide) q6 q3 (fun c => ?_) (fun c => ?_)
    · have h := hT7 c
      refine xr_wk (ll' := [some (xr G 74), some (xi v1), some (xi v2), some (xi v3), none, none]) ⟨rfl, ⟨rfl, ⟨rfl, ⟨rfl, trivial⟩⟩⟩⟩ ?_
      exact h
    · have h := hF8 (Int.not_le.mp c)
      refine xr_aload_n dX12_unfair_156 rfl ?_
      refine xr_iconst dX12_unfair_157 ?_
      refine xr_iload_n dX12_unfair_158 rfl ?_
      refine xr_cvV (As := [xi 4, xi v2]) dX12_unfair_159 mi_X12_note ml_X12_452 se_X12_note L_74 rfl rfl rfl (Nat.le_of_ble_eq_true rfl) h (fun m10 h => ?_)
      refine xr_wk (ll' := [some (xr G 74), some (xi v1), some (xi v2), some (xi v3), none, none]) ⟨rfl, ⟨rfl, ⟨rfl, ⟨rfl, trivial⟩⟩⟩⟩ ?_
      exact h
  · have h := hF5 (Int.not_le.mp c)
    refine xr_iload dX12_unfair_112 rfl ?_
    refine xr_aload_n dX12_unfair_114 rfl ?_
    refine xr_iload_n dX12_unfair_115 rfl ?_
    refine xr_aload_n dX12_unfair_116 rfl ?_
    refine xr_iload_n dX12_unfair_117 rfl ?_
    refine xr_iload dX12_unfair_118 rfl ?_
    refine xr_cvI (As := [xi v2, xi v5]) dX12_unfair_120 mi_X12_cellOf ml_X12_391 se_X12_cellOf L_74 rfl rfl rfl (Nat.le_of_ble_eq_true rfl) h (fun r11 m12 hr11 h => ?_)
    refine xr_cvI (As := [xi v2, xi r11]) dX12_unfair_123 mi_X12_other ml_X12_409 se_X12_other L_74 rfl rfl rfl (Nat.le_of_ble_eq_true rfl) h (fun r13 m14 hr13 h => ?_)
    obtain ⟨hT15, hF16⟩ := h
    refine xr_if_lt (tgt := 133) dX12_unfair_126 (by decide) hr13  (fun c => ?_) (fun c => ?_)
    · have h := hT15 c
      refine xr_iconst dX12_unfair_133 ?_
      refine xr_iadd dX12_unfair_134 ?_
      refine xr_istore' (ll' := [some (xr G 74), some (xi v1), some (xi v2), some (xi v3), some (xi (v4 + 0)), some (xi v5)]) dX12_unfair_135 (by decide) rfl rfl ?_
      refine xr_iinc' (ll' := [some (xr G 74), some (xi v1), some (xi v2), some (xi v3), some (xi (v4 + 0)), some (xi (v5 + 1))]) dX12_unfair_137 rfl (by decide) rfl rfl ?_
      refine xr_goto (tgt := 101) dX12_unfair_140 (by decide) ?_
      exact h
    · have h := hF16 (Int.not_lt.mp c)
      refine xr_iconst dX12_unfair_129 ?_
      refine xr_goto (tgt := 134) dX12_unfair_130 (by decide) ?_
      refine xr_iadd dX12_unfair_134 ?_
      refine xr_istore' (ll' := [some (xr G 74), some (xi v1), some (xi v2), some (xi v3), some (xi (v4 + 1)), some (xi v5)]) dX12_unfair_135 (by decide) rfl rfl ?_
      refine xr_iinc' (ll' := [some (xr G 74), some (xi v1), some (xi v2), some (xi v3), some (xi (v4 + 1)), some (xi (v5 + 1))]) dX12_unfair_137 rfl (by decide) rfl rfl ?_
      refine xr_goto (tgt := 101) dX12_unfair_140 (by decide) ?_
      exact h
set_option maxRecDepth 20000 in
theorem B_X12_unfair_162 {G : xG} {l : Launch} {d : Nat} {P : Int → xMem → Prop} {v1 v2 v3 : Int} {μ : xMem} (h : (iR v3 ∧ (v3 < 0 → K_X12_unfair_17 G l (d + 1) P v1 (v2 + 1) μ) ∧ (0 ≤ v3 → CI G l d mX12_quarrels [xr G 74, xi v2, xi v3, xi v1] μ (fun r4 m5 => ((r4 = 0 → K_X12_unfair_17 G l (d + 1) P v1 (v2 + 1) m5) ∧ (r4 ≠ 0 → CV G l d mX12_note [xr G 74, xi 5, xi v2] m5 (fun m9 => K_X12_unfair_17 G l (d + 1) P v1 (v2 + 1) m9))))))) : K_X12_unfair_162 G l (d + 1) P v1 v2 v3 μ := by
  unfold K_X12_unfair_162
  refine xr_iload_n dX12_unfair_162 rfl ?_
  obtain ⟨q1, hT2, hF3⟩ := h
  refine xr_if_lt (tgt := 182) dX12_unfair_163 (by decide) q1  (fun c => ?_) (fun c => ?_)
  · have h := hT2 c
    refine xr_iinc' (ll' := [some (xr G 74), some (xi v1), some (xi (v2 + 1)), some (xi v3), none, none]) dX12_unfair_182 rfl (by decide) rfl rfl ?_
    refine xr_goto (tgt := 17) dX12_unfair_185 (by decide) ?_
    refine xr_wk (ll' := [some (xr G 74), some (xi v1), some (xi (v2 + 1)), none, none, none]) ⟨rfl, ⟨rfl, ⟨rfl, trivial⟩⟩⟩ ?_
    exact h
  · have h := hF3 (Int.not_lt.mp c)
    refine xr_aload_n dX12_unfair_166 rfl ?_
    refine xr_iload_n dX12_unfair_167 rfl ?_
    refine xr_iload_n dX12_unfair_168 rfl ?_
    refine xr_iload_n dX12_unfair_169 rfl ?_
    refine xr_cvI (As := [xi v2, xi v3, xi v1]) dX12_unfair_170 mi_X12_quarrels ml_X12_458 se_X12_quarrels L_74 rfl rfl rfl (Nat.le_of_ble_eq_true rfl) h (fun r4 m5 hr4 h => ?_)
    obtain ⟨hT6, hF7⟩ := h
    refine xr_if_eq (tgt := 182) dX12_unfair_173 (by decide) hr4  (fun c => ?_) (fun c => ?_)
    · have h := hT6 c
      refine xr_iinc' (ll' := [some (xr G 74), some (xi v1), some (xi (v2 + 1)), some (xi v3), none, none]) dX12_unfair_182 rfl (by decide) rfl rfl ?_
      refine xr_goto (tgt := 17) dX12_unfair_185 (by decide) ?_
      refine xr_wk (ll' := [some (xr G 74), some (xi v1), some (xi (v2 + 1)), none, none, none]) ⟨rfl, ⟨rfl, ⟨rfl, trivial⟩⟩⟩ ?_
      exact h
    · have h := hF7 c
      refine xr_aload_n dX12_unfair_176 rfl ?_
      refine xr_iconst dX12_unfair_177 ?_
      refine xr_iload_n dX12_unfair_178 rfl ?_
      refine xr_cvV (As := [xi 5, xi v2]) dX12_unfair_179 mi_X12_note ml_X12_452 se_X12_note L_74 rfl rfl rfl (Nat.le_of_ble_eq_true rfl) h (fun m9 h => ?_)
      refine xr_iinc' (ll' := [some (xr G 74), some (xi v1), some (xi (v2 + 1)), some (xi v3), none, none]) dX12_unfair_182 rfl (by decide) rfl rfl ?_
      refine xr_goto (tgt := 17) dX12_unfair_185 (by decide) ?_
      refine xr_wk (ll' := [some (xr G 74), some (xi v1), some (xi (v2 + 1)), none, none, none]) ⟨rfl, ⟨rfl, ⟨rfl, trivial⟩⟩⟩ ?_
      exact h
theorem dX12_told_0 : decode cX12_told 0 = .ok (.aload_n 0, 1) := by decide +kernel
theorem dX12_told_1 : decode cX12_told 1 = .ok (.iload_n 1, 1) := by decide +kernel
theorem dX12_told_2 : decode cX12_told 2 = .ok (.ifCond .lt 20, 3) := by decide +kernel
theorem dX12_told_5 : decode cX12_told 5 = .ok (.iload_n 1, 1) := by decide +kernel
theorem dX12_told_6 : decode cX12_told 6 = .ok (.aload_n 0, 1) := by decide +kernel
theorem dX12_told_7 : decode cX12_told 7 = .ok (.getfield 446, 3) := by decide +kernel
theorem dX12_told_10 : decode cX12_told 10 = .ok (.if_icmp .ge 12, 3) := by decide +kernel
theorem dX12_told_13 : decode cX12_told 13 = .ok (.iload_n 2, 1) := by decide +kernel
theorem dX12_told_14 : decode cX12_told 14 = .ok (.ifCond .lt 8, 3) := by decide +kernel
theorem dX12_told_17 : decode cX12_told 17 = .ok (.iload_n 2, 1) := by decide +kernel
theorem dX12_told_18 : decode cX12_told 18 = .ok (.iconst 1, 1) := by decide +kernel
theorem dX12_told_19 : decode cX12_told 19 = .ok (.if_icmp .le 7, 3) := by decide +kernel
theorem dX12_told_22 : decode cX12_told 22 = .ok (.iconst 1, 1) := by decide +kernel
theorem dX12_told_23 : decode cX12_told 23 = .ok (.goto 4, 3) := by decide +kernel
theorem dX12_told_26 : decode cX12_told 26 = .ok (.iconst 0, 1) := by decide +kernel
theorem dX12_told_27 : decode cX12_told 27 = .ok (.invokevirtual 384, 3) := by decide +kernel
theorem dX12_told_30 : decode cX12_told 30 = .ok (.ifCond .eq 5, 3) := by decide +kernel
theorem dX12_told_33 : decode cX12_told 33 = .ok (.iconst 0, 1) := by decide +kernel
theorem dX12_told_34 : decode cX12_told 34 = .ok (.ireturn, 1) := by decide +kernel
theorem dX12_told_35 : decode cX12_told 35 = .ok (.iload_n 2, 1) := by decide +kernel
theorem dX12_told_36 : decode cX12_told 36 = .ok (.ifCond .ne 12, 3) := by decide +kernel
theorem dX12_told_39 : decode cX12_told 39 = .ok (.aload_n 0, 1) := by decide +kernel
theorem dX12_told_40 : decode cX12_told 40 = .ok (.getfield 167, 3) := by decide +kernel
theorem dX12_told_43 : decode cX12_told 43 = .ok (.iload_n 1, 1) := by decide +kernel
theorem dX12_told_44 : decode cX12_told 44 = .ok (.iaload, 1) := by decide +kernel
theorem dX12_told_45 : decode cX12_told 45 = .ok (.goto 9, 3) := by decide +kernel
theorem dX12_told_48 : decode cX12_told 48 = .ok (.aload_n 0, 1) := by decide +kernel
theorem dX12_told_49 : decode cX12_told 49 = .ok (.getfield 170, 3) := by decide +kernel
theorem dX12_told_52 : decode cX12_told 52 = .ok (.iload_n 1, 1) := by decide +kernel
theorem dX12_told_53 : decode cX12_told 53 = .ok (.iaload, 1) := by decide +kernel
theorem dX12_told_54 : decode cX12_told 54 = .ok (.ireturn, 1) := by decide +kernel
def K_X12_told_27 (G : xG) (l : Launch) (d : Nat) (P : Int → xMem → Prop) (v1 v2 s1 : Int) (μ : xMem) : Prop := RR G l d 0 0 false mX12_told (qI P) 27 [some (xr G 74), some (xi v1), some (xi v2)] [xi s1, xr G 74] LAY μ 0 0
set_option maxRecDepth 20000 in
theorem E_X12_told {G : xG} {l : Launch} {d : Nat} {P : Int → xMem → Prop} {v1 v2 : Int} {μ : xMem} (h : (iR v1 ∧ (v1 < 0 → K_X12_told_27 G l (d + 1) P v1 v2 1 μ) ∧ (0 ≤ v1 → (iR (μ 74 76) ∧ ((μ 74 76) ≤ v1 → K_X12_told_27 G l (d + 1) P v1 v2 1 μ) ∧ (v1 < (μ 74 76) → (iR v2 ∧ (v2 < 0 → K_X12_told_27 G l (d + 1) P v1 v2 1 μ) ∧ (0 ≤ v2 → ((v2 ≤ 1 → K_X12_told_27 G l (d + 1) P v1 v2 0 μ) ∧ (1 < v2 → K_X12_told_27 G l (d + 1) P v1 v2 1 μ))))))))) : CI G l (d + 1) mX12_told [xr G 74, xi v1, xi v2] μ P := by
  refine CC.ofRR (ll := [some (xr G 74), some (xi v1), some (xi v2)]) (by decide +kernel) (Nat.le_of_ble_eq_true rfl) rfl (fun h => by cases h) ?_
  refine xr_aload_n dX12_told_0 rfl ?_
  refine xr_iload_n dX12_told_1 rfl ?_
  obtain ⟨q1, hT2, hF3⟩ := h
  refine xr_if_lt (tgt := 22) dX12_told_2 (by decide) q1  (fun c => ?_) (fun c => ?_)
  · have h := hT2 c
    refine xr_iconst dX12_told_22 ?_
    refine xr_goto (tgt := 27) dX12_told_23 (by decide) ?_
    exact h
  · have h := hF3 (Int.not_lt.mp c)
    refine xr_iload_n dX12_told_5 rfl ?_
    refine xr_aload_n dX12_told_6 rfl ?_
    refine xr_getI' (v := μ 74 76) dX12_told_7 fl_X12_446 L_74 rfl rfl rfl ?_
    obtain ⟨q4, hT5, hF6⟩ := h
    refine xr_icmp_ge (tgt := 22) dX12_told_10 (by decide) q1 q4 (fun c => ?_) (fun c => ?_)
    · have h := hT5 c
      refine xr_iconst dX12_told_22 ?_
      refine xr_goto (tgt := 27) dX12_told_23 (by decide) ?_
      exact h
    · have h := hF6 (Int.not_le.mp c)
      refine xr_iload_n dX12_told_13 rfl ?_
      obtain ⟨q7, hT8, hF9⟩ := h
      refine xr_if_lt (tgt := 22) dX12_told_14 (by decide) q7  (fun c => ?_) (fun c => ?_)
      · have h := hT8 c
        refine xr_iconst dX12_told_22 ?_
        refine xr_goto (tgt := 27) dX12_told_23 (by decide) ?_
        exact h
      · have h := hF9 (Int.not_lt.mp c)
        refine xr_iload_n dX12_told_17 rfl ?_
        refine xr_iconst dX12_told_18 ?_
        obtain ⟨hT10, hF11⟩ := h
        refine xr_icmp_le (tgt := 26) dX12_told_19 (by decide) q7 (by decide) (fun c => ?_) (fun c => ?_)
        · have h := hT10 c
          refine xr_iconst dX12_told_26 ?_
          exact h
        · have h := hF11 (Int.not_le.mp c)
          refine xr_iconst dX12_told_22 ?_
          refine xr_goto (tgt := 27) dX12_told_23 (by decide) ?_
          exact h
set_option maxRecDepth 20000 in
theorem B_X12_told_27 {G : xG} {l : Launch} {d : Nat} {P : Int → xMem → Prop} {v1 v2 s1 : Int} {μ : xMem} (h : CI G l d mX12_throwsIf [xr G 74, xi s1] μ (fun r1 m2 => ((r1 = 0 → (iR v2 ∧ (v2 ≠ 0 → ((0 ≤ v1 ∧ v1 < 80) ∧ (iR (m2 125 v1) ∧ P (m2 125 v1) m2))) ∧ (v2 = 0 → ((0 ≤ v1 ∧ v1 < 80) ∧ (iR (m2 124 v1) ∧ P (m2 124 v1) m2))))) ∧ (r1 ≠ 0 → P 0 m2)))) : K_X12_told_27 G l (d + 1) P v1 v2 s1 μ := by
  unfold K_X12_told_27
  refine xr_cvI (As := [xi s1]) dX12_told_27 mi_X12_throwsIf ml_X12_384 se_X12_throwsIf L_74 rfl rfl rfl (Nat.le_of_ble_eq_true rfl) h (fun r1 m2 hr1 h => ?_)
  obtain ⟨hT3, hF4⟩ := h
  refine xr_if_eq (tgt := 35) dX12_told_30 (by decide) hr1  (fun c => ?_) (fun c => ?_)
  · have h := hT3 c
    refine xr_iload_n dX12_told_35 rfl ?_
    obtain ⟨q5, hT6, hF7⟩ := h
    refine xr_if_ne (tgt := 48) dX12_told_36 (by decide) q5  (fun c => ?_) (fun c => ?_)
    · have h := hT6 c
      refine xr_aload_n dX12_told_48 rfl ?_
      refine xr_getR dX12_told_49 fl_X12_170 L_74 rfl ?_
      refine xr_iload_n dX12_told_52 rfl ?_
      obtain ⟨q8, h⟩ := h
      refine xr_iaload' (v := m2 125 v1) dX12_told_53 L_125 rfl (by decide) q8 rfl ?_
      obtain ⟨q9, h⟩ := h
      exact xr_iret dX12_told_54 rfl ⟨rfl, _, rfl, q9, h⟩
    · have h := hF7 c
      refine xr_aload_n dX12_told_39 rfl ?_
      refine xr_getR dX12_told_40 fl_X12_167 L_74 rfl ?_
      refine xr_iload_n dX12_told_43 rfl ?_
      obtain ⟨q10, h⟩ := h
      refine xr_iaload' (v := m2 124 v1) dX12_told_44 L_124 rfl (by decide) q10 rfl ?_
      refine xr_goto (tgt := 54) dX12_told_45 (by decide) ?_
      obtain ⟨q11, h⟩ := h
      exact xr_iret dX12_told_54 rfl ⟨rfl, _, rfl, q11, h⟩
  · have h := hF4 c
    refine xr_iconst dX12_told_33 ?_
    exact xr_iret dX12_told_34 rfl ⟨rfl, _, rfl, (by decide), h⟩
theorem dX12_allLetters_0 : decode cX12_allLetters 0 = .ok (.iconst 0, 1) := by decide +kernel
theorem dX12_allLetters_1 : decode cX12_allLetters 1 = .ok (.istore_n 1, 1) := by decide +kernel
theorem dX12_allLetters_2 : decode cX12_allLetters 2 = .ok (.iconst 0, 1) := by decide +kernel
theorem dX12_allLetters_3 : decode cX12_allLetters 3 = .ok (.istore_n 2, 1) := by decide +kernel
theorem dX12_allLetters_4 : decode cX12_allLetters 4 = .ok (.iload_n 2, 1) := by decide +kernel
theorem dX12_allLetters_5 : decode cX12_allLetters 5 = .ok (.bipush 16, 2) := by decide +kernel
theorem dX12_allLetters_7 : decode cX12_allLetters 7 = .ok (.if_icmp .ge 31, 3) := by decide +kernel
theorem dX12_allLetters_10 : decode cX12_allLetters 10 = .ok (.iload_n 1, 1) := by decide +kernel
theorem dX12_allLetters_11 : decode cX12_allLetters 11 = .ok (.aload_n 0, 1) := by decide +kernel
theorem dX12_allLetters_12 : decode cX12_allLetters 12 = .ok (.getfield 146, 3) := by decide +kernel
theorem dX12_allLetters_15 : decode cX12_allLetters 15 = .ok (.iload_n 2, 1) := by decide +kernel
theorem dX12_allLetters_16 : decode cX12_allLetters 16 = .ok (.baload, 1) := by decide +kernel
theorem dX12_allLetters_17 : decode cX12_allLetters 17 = .ok (.ifCond .eq 12, 3) := by decide +kernel
theorem dX12_allLetters_20 : decode cX12_allLetters 20 = .ok (.aload_n 0, 1) := by decide +kernel
theorem dX12_allLetters_21 : decode cX12_allLetters 21 = .ok (.getfield 53, 3) := by decide +kernel
theorem dX12_allLetters_24 : decode cX12_allLetters 24 = .ok (.iload_n 2, 1) := by decide +kernel
theorem dX12_allLetters_25 : decode cX12_allLetters 25 = .ok (.iaload, 1) := by decide +kernel
theorem dX12_allLetters_26 : decode cX12_allLetters 26 = .ok (.goto 4, 3) := by decide +kernel
theorem dX12_allLetters_29 : decode cX12_allLetters 29 = .ok (.iconst 0, 1) := by decide +kernel
theorem dX12_allLetters_30 : decode cX12_allLetters 30 = .ok (.iadd, 1) := by decide +kernel
theorem dX12_allLetters_31 : decode cX12_allLetters 31 = .ok (.istore_n 1, 1) := by decide +kernel
theorem dX12_allLetters_32 : decode cX12_allLetters 32 = .ok (.iinc 2 1, 3) := by decide +kernel
theorem dX12_allLetters_35 : decode cX12_allLetters 35 = .ok (.goto (-31), 3) := by decide +kernel
theorem dX12_allLetters_38 : decode cX12_allLetters 38 = .ok (.iload_n 1, 1) := by decide +kernel
theorem dX12_allLetters_39 : decode cX12_allLetters 39 = .ok (.ireturn, 1) := by decide +kernel
def K_X12_allLetters_4 (G : xG) (l : Launch) (d : Nat) (P : Int → xMem → Prop) (v1 v2 : Int) (μ : xMem) : Prop := RR G l d 0 0 false mX12_allLetters (qI P) 4 [some (xr G 74), some (xi v1), some (xi v2)] [] LAY μ 0 0
set_option maxRecDepth 20000 in
theorem E_X12_allLetters {G : xG} {l : Launch} {d : Nat} {P : Int → xMem → Prop} {μ : xMem} (h : K_X12_allLetters_4 G l (d + 1) P 0 0 μ) : CI G l (d + 1) mX12_allLetters [xr G 74] μ P := by
  refine CC.ofRR (ll := [some (xr G 74), none, none]) (by decide +kernel) (Nat.le_of_ble_eq_true rfl) rfl (fun h => by cases h) ?_
  refine xr_iconst dX12_allLetters_0 ?_
  refine xr_istore_n' (ll' := [some (xr G 74), some (xi 0), none]) dX12_allLetters_1 (by decide) rfl rfl ?_
  refine xr_iconst dX12_allLetters_2 ?_
  refine xr_istore_n' (ll' := [some (xr G 74), some (xi 0), some (xi 0)]) dX12_allLetters_3 (by decide) rfl rfl ?_
  exact h
set_option maxRecDepth 20000 in
theorem B_X12_allLetters_4 {G : xG} {l : Launch} {d : Nat} {P : Int → xMem → Prop} {v1 v2 : Int} {μ : xMem} (h : (iR v2 ∧ (16 ≤ v2 → (iR v1 ∧ P v1 μ)) ∧ (v2 < 16 → ((0 ≤ v2 ∧ v2 < 16) ∧ (iR (μ 117 v2) ∧ ((μ 117 v2) = 0 → K_X12_allLetters_4 G l (d + 1) P (v1 + 0) (v2 + 1) μ) ∧ ((μ 117 v2) ≠ 0 → K_X12_allLetters_4 G l (d + 1) P (v1 + (μ 89 v2)) (v2 + 1) μ)))))) : K_X12_allLetters_4 G l (d + 1) P v1 v2 μ := by
  unfold K_X12_allLetters_4
  refine xr_iload_n dX12_allLetters_4 rfl ?_
  refine xr_bipush dX12_allLetters_5 (by decide) ?_
  obtain ⟨q1, hT2, hF3⟩ := h
  refine xr_icmp_ge (tgt := 38) dX12_allLetters_7 (by decide) q1 (by decide) (fun c => ?_) (fun c => ?_)
  · have h := hT2 c
    refine xr_iload_n dX12_allLetters_38 rfl ?_
    obtain ⟨q4, h⟩ := h
    exact xr_iret dX12_allLetters_39 rfl ⟨rfl, _, rfl, q4, h⟩
  · have h := hF3 (Int.not_le.mp c)
    refine xr_iload_n dX12_allLetters_10 rfl ?_
    refine xr_aload_n dX12_allLetters_11 rfl ?_
    refine xr_getR dX12_allLetters_12 fl_X12_146 L_74 rfl ?_
    refine xr_iload_n dX12_allLetters_15 rfl ?_
    obtain ⟨q5, h⟩ := h
    refine xr_zaload' (v := μ 117 v2) dX12_allLetters_16 L_117 rfl (by decide) q5 rfl ?_
    obtain ⟨q6, hT7, hF8⟩ := h
    refine xr_if_eq (tgt := 29) dX12_allLetters_17 (by decide) q6  (fun c => ?_) (fun c => ?_)
    · have h := hT7 c
      refine xr_iconst dX12_allLetters_29 ?_
      refine xr_iadd dX12_allLetters_30 ?_
      refine xr_istore_n' (ll' := [some (xr G 74), some (xi (v1 + 0)), some (xi v2)]) dX12_allLetters_31 (by decide) rfl rfl ?_
      refine xr_iinc' (ll' := [some (xr G 74), some (xi (v1 + 0)), some (xi (v2 + 1))]) dX12_allLetters_32 rfl (by decide) rfl rfl ?_
      refine xr_goto (tgt := 4) dX12_allLetters_35 (by decide) ?_
      exact h
    · have h := hF8 c
      refine xr_aload_n dX12_allLetters_20 rfl ?_
      refine xr_getR dX12_allLetters_21 fl_X12_53 L_74 rfl ?_
      refine xr_iload_n dX12_allLetters_24 rfl ?_
      refine xr_iaload' (v := μ 89 v2) dX12_allLetters_25 L_89 rfl (by decide) q5 rfl ?_
      refine xr_goto (tgt := 30) dX12_allLetters_26 (by decide) ?_
      refine xr_iadd dX12_allLetters_30 ?_
      refine xr_istore_n' (ll' := [some (xr G 74), some (xi (v1 + (μ 89 v2))), some (xi v2)]) dX12_allLetters_31 (by decide) rfl rfl ?_
      refine xr_iinc' (ll' := [some (xr G 74), some (xi (v1 + (μ 89 v2))), some (xi (v2 + 1))]) dX12_allLetters_32 rfl (by decide) rfl rfl ?_
      refine xr_goto (tgt := 4) dX12_allLetters_35 (by decide) ?_
      exact h
theorem dX12_send_0 : decode cX12_send 0 = .ok (.aload_n 0, 1) := by decide +kernel
theorem dX12_send_1 : decode cX12_send 1 = .ok (.iconst 0, 1) := by decide +kernel
theorem dX12_send_2 : decode cX12_send 2 = .ok (.putfield 185, 3) := by decide +kernel
theorem dX12_send_5 : decode cX12_send 5 = .ok (.aload_n 0, 1) := by decide +kernel
theorem dX12_send_6 : decode cX12_send 6 = .ok (.invokevirtual 205, 3) := by decide +kernel
theorem dX12_send_9 : decode cX12_send 9 = .ok (.aload_n 0, 1) := by decide +kernel
theorem dX12_send_10 : decode cX12_send 10 = .ok (.getfield 461, 3) := by decide +kernel
theorem dX12_send_13 : decode cX12_send 13 = .ok (.bipush 30, 2) := by decide +kernel
theorem dX12_send_15 : decode cX12_send 15 = .ok (.if_icmp .eq 21, 3) := by decide +kernel
theorem dX12_send_18 : decode cX12_send 18 = .ok (.aload_n 0, 1) := by decide +kernel
theorem dX12_send_19 : decode cX12_send 19 = .ok (.invokevirtual 464, 3) := by decide +kernel
theorem dX12_send_22 : decode cX12_send 22 = .ok (.ifCond .eq 14, 3) := by decide +kernel
theorem dX12_send_25 : decode cX12_send 25 = .ok (.aload_n 0, 1) := by decide +kernel
theorem dX12_send_26 : decode cX12_send 26 = .ok (.getfield 195, 3) := by decide +kernel
theorem dX12_send_29 : decode cX12_send 29 = .ok (.aload_n 0, 1) := by decide +kernel
theorem dX12_send_30 : decode cX12_send 30 = .ok (.invokevirtual 464, 3) := by decide +kernel
theorem dX12_send_33 : decode cX12_send 33 = .ok (.if_icmp .eq 5, 3) := by decide +kernel
theorem dX12_send_36 : decode cX12_send 36 = .ok (.iconst (-1), 1) := by decide +kernel
theorem dX12_send_37 : decode cX12_send 37 = .ok (.ireturn, 1) := by decide +kernel
theorem dX12_send_38 : decode cX12_send 38 = .ok (.iconst 0, 1) := by decide +kernel
theorem dX12_send_39 : decode cX12_send 39 = .ok (.istore_n 1, 1) := by decide +kernel
theorem dX12_send_40 : decode cX12_send 40 = .ok (.iload_n 1, 1) := by decide +kernel
theorem dX12_send_41 : decode cX12_send 41 = .ok (.aload_n 0, 1) := by decide +kernel
theorem dX12_send_42 : decode cX12_send 42 = .ok (.getfield 195, 3) := by decide +kernel
theorem dX12_send_45 : decode cX12_send 45 = .ok (.if_icmp .ge 23, 3) := by decide +kernel
theorem dX12_send_48 : decode cX12_send 48 = .ok (.aload_n 0, 1) := by decide +kernel
theorem dX12_send_49 : decode cX12_send 49 = .ok (.getfield 7, 3) := by decide +kernel
theorem dX12_send_52 : decode cX12_send 52 = .ok (.iload_n 1, 1) := by decide +kernel
theorem dX12_send_53 : decode cX12_send 53 = .ok (.baload, 1) := by decide +kernel
theorem dX12_send_54 : decode cX12_send 54 = .ok (.invokestatic 211, 3) := by decide +kernel
theorem dX12_send_57 : decode cX12_send 57 = .ok (.ifCond .ne 5, 3) := by decide +kernel
theorem dX12_send_60 : decode cX12_send 60 = .ok (.iconst (-1), 1) := by decide +kernel
theorem dX12_send_61 : decode cX12_send 61 = .ok (.ireturn, 1) := by decide +kernel
theorem dX12_send_62 : decode cX12_send 62 = .ok (.iinc 1 1, 3) := by decide +kernel
theorem dX12_send_65 : decode cX12_send 65 = .ok (.goto (-25), 3) := by decide +kernel
theorem dX12_send_68 : decode cX12_send 68 = .ok (.iconst 0, 1) := by decide +kernel
theorem dX12_send_69 : decode cX12_send 69 = .ok (.istore_n 1, 1) := by decide +kernel
theorem dX12_send_70 : decode cX12_send 70 = .ok (.iload_n 1, 1) := by decide +kernel
theorem dX12_send_71 : decode cX12_send 71 = .ok (.aload_n 0, 1) := by decide +kernel
theorem dX12_send_72 : decode cX12_send 72 = .ok (.getfield 195, 3) := by decide +kernel
theorem dX12_send_75 : decode cX12_send 75 = .ok (.if_icmp .ge 30, 3) := by decide +kernel
theorem dX12_send_78 : decode cX12_send 78 = .ok (.aload_n 0, 1) := by decide +kernel
theorem dX12_send_79 : decode cX12_send 79 = .ok (.getfield 173, 3) := by decide +kernel
theorem dX12_send_82 : decode cX12_send 82 = .ok (.sipush 160, 3) := by decide +kernel
theorem dX12_send_85 : decode cX12_send 85 = .ok (.aload_n 0, 1) := by decide +kernel
theorem dX12_send_86 : decode cX12_send 86 = .ok (.getfield 461, 3) := by decide +kernel
theorem dX12_send_89 : decode cX12_send 89 = .ok (.imul, 1) := by decide +kernel
theorem dX12_send_90 : decode cX12_send 90 = .ok (.iload_n 1, 1) := by decide +kernel
theorem dX12_send_91 : decode cX12_send 91 = .ok (.iadd, 1) := by decide +kernel
theorem dX12_send_92 : decode cX12_send 92 = .ok (.aload_n 0, 1) := by decide +kernel
theorem dX12_send_93 : decode cX12_send 93 = .ok (.getfield 7, 3) := by decide +kernel
theorem dX12_send_96 : decode cX12_send 96 = .ok (.iload_n 1, 1) := by decide +kernel
theorem dX12_send_97 : decode cX12_send 97 = .ok (.baload, 1) := by decide +kernel
theorem dX12_send_98 : decode cX12_send 98 = .ok (.bastore, 1) := by decide +kernel
theorem dX12_send_99 : decode cX12_send 99 = .ok (.iinc 1 1, 3) := by decide +kernel
theorem dX12_send_102 : decode cX12_send 102 = .ok (.goto (-32), 3) := by decide +kernel
theorem dX12_send_105 : decode cX12_send 105 = .ok (.aload_n 0, 1) := by decide +kernel
theorem dX12_send_106 : decode cX12_send 106 = .ok (.getfield 176, 3) := by decide +kernel
theorem dX12_send_109 : decode cX12_send 109 = .ok (.aload_n 0, 1) := by decide +kernel
theorem dX12_send_110 : decode cX12_send 110 = .ok (.getfield 461, 3) := by decide +kernel
theorem dX12_send_113 : decode cX12_send 113 = .ok (.aload_n 0, 1) := by decide +kernel
theorem dX12_send_114 : decode cX12_send 114 = .ok (.getfield 195, 3) := by decide +kernel
theorem dX12_send_117 : decode cX12_send 117 = .ok (.iastore, 1) := by decide +kernel
theorem dX12_send_118 : decode cX12_send 118 = .ok (.aload_n 0, 1) := by decide +kernel
theorem dX12_send_119 : decode cX12_send 119 = .ok (.getfield 179, 3) := by decide +kernel
theorem dX12_send_122 : decode cX12_send 122 = .ok (.aload_n 0, 1) := by decide +kernel
theorem dX12_send_123 : decode cX12_send 123 = .ok (.getfield 461, 3) := by decide +kernel
theorem dX12_send_126 : decode cX12_send 126 = .ok (.aload_n 0, 1) := by decide +kernel
theorem dX12_send_127 : decode cX12_send 127 = .ok (.getfield 202, 3) := by decide +kernel
theorem dX12_send_130 : decode cX12_send 130 = .ok (.iastore, 1) := by decide +kernel
theorem dX12_send_131 : decode cX12_send 131 = .ok (.aload_n 0, 1) := by decide +kernel
theorem dX12_send_132 : decode cX12_send 132 = .ok (.dup, 1) := by decide +kernel
theorem dX12_send_133 : decode cX12_send 133 = .ok (.getfield 461, 3) := by decide +kernel
theorem dX12_send_136 : decode cX12_send 136 = .ok (.iconst 1, 1) := by decide +kernel
theorem dX12_send_137 : decode cX12_send 137 = .ok (.iadd, 1) := by decide +kernel
theorem dX12_send_138 : decode cX12_send 138 = .ok (.putfield 461, 3) := by decide +kernel
theorem dX12_send_141 : decode cX12_send 141 = .ok (.aload_n 0, 1) := by decide +kernel
theorem dX12_send_142 : decode cX12_send 142 = .ok (.getfield 461, 3) := by decide +kernel
theorem dX12_send_145 : decode cX12_send 145 = .ok (.iconst 1, 1) := by decide +kernel
theorem dX12_send_146 : decode cX12_send 146 = .ok (.isub, 1) := by decide +kernel
theorem dX12_send_147 : decode cX12_send 147 = .ok (.ireturn, 1) := by decide +kernel
def K_X12_send_40 (G : xG) (l : Launch) (d : Nat) (P : Int → xMem → Prop) (v1 : Int) (μ : xMem) : Prop := RR G l d 0 0 false mX12_send (qI P) 40 [some (xr G 74), some (xi v1)] [] LAY μ 0 0
def K_X12_send_70 (G : xG) (l : Launch) (d : Nat) (P : Int → xMem → Prop) (v1 : Int) (μ : xMem) : Prop := RR G l d 0 0 false mX12_send (qI P) 70 [some (xr G 74), some (xi v1)] [] LAY μ 0 0
set_option maxRecDepth 20000 in
theorem E_X12_send {G : xG} {l : Launch} {d : Nat} {P : Int → xMem → Prop} {μ : xMem} (h : CV G l d mX12_taken [xr G 74] (st2 μ 74 0 0) (fun m2 => (iR (m2 74 81) ∧ ((m2 74 81) = 30 → P (-1) m2) ∧ ((m2 74 81) ≠ 30 → CI G l d mX12_allLetters [xr G 74] m2 (fun r6 m7 => ((r6 = 0 → P (-1) m7) ∧ (r6 ≠ 0 → CI G l d mX12_allLetters [xr G 74] m7 (fun r10 m11 => (iR (m7 74 3) ∧ ((m7 74 3) = r10 → K_X12_send_40 G l (d + 1) P 0 m11) ∧ ((m7 74 3) ≠ r10 → P (-1) m11)))))))))) : CI G l (d + 1) mX12_send [xr G 74] μ P := by
  refine CC.ofRR (ll := [some (xr G 74), none]) (by decide +kernel) (Nat.le_of_ble_eq_true rfl) rfl (fun h => by cases h) ?_
  refine xr_aload_n dX12_send_0 rfl ?_
  refine xr_iconst dX12_send_1 ?_
  refine xr_putI dX12_send_2 fp_X12_185 L_74 rfl rfl ⟨rfl, rfl⟩ ?_
  refine xr_aload_n dX12_send_5 rfl ?_
  refine xr_cvV (As := []) dX12_send_6 mi_X12_taken ml_X12_205 se_X12_taken L_74 rfl rfl rfl (Nat.le_of_ble_eq_true rfl) h (fun m2 h => ?_)
  refine xr_aload_n dX12_send_9 rfl ?_
  refine xr_getI' (v := m2 74 81) dX12_send_10 fl_X12_461 L_74 rfl rfl rfl ?_
  refine xr_bipush dX12_send_13 (by decide) ?_
  obtain ⟨q3, hT4, hF5⟩ := h
  refine xr_icmp_eq (tgt := 36) dX12_send_15 (by decide) q3 (by decide) (fun c => ?_) (fun c => ?_)
  · have h := hT4 c
    refine xr_iconst dX12_send_36 ?_
    exact xr_iret dX12_send_37 rfl ⟨rfl, _, rfl, (by decide), h⟩
  · have h := hF5 c
    refine xr_aload_n dX12_send_18 rfl ?_
    refine xr_cvI (As := []) dX12_send_19 mi_X12_allLetters ml_X12_464 se_X12_allLetters L_74 rfl rfl rfl (Nat.le_of_ble_eq_true rfl) h (fun r6 m7 hr6 h => ?_)
    obtain ⟨hT8, hF9⟩ := h
    refine xr_if_eq (tgt := 36) dX12_send_22 (by decide) hr6  (fun c => ?_) (fun c => ?_)
    · have h := hT8 c
      refine xr_iconst dX12_send_36 ?_
      exact xr_iret dX12_send_37 rfl ⟨rfl, _, rfl, (by decide), h⟩
    · have h := hF9 c
      refine xr_aload_n dX12_send_25 rfl ?_
      refine xr_getI' (v := m7 74 3) dX12_send_26 fl_X12_195 L_74 rfl rfl rfl ?_
      refine xr_aload_n dX12_send_29 rfl ?_
      refine xr_cvI (As := []) dX12_send_30 mi_X12_allLetters ml_X12_464 se_X12_allLetters L_74 rfl rfl rfl (Nat.le_of_ble_eq_true rfl) h (fun r10 m11 hr10 h => ?_)
      obtain ⟨q12, hT13, hF14⟩ := h
      refine xr_icmp_eq (tgt := 38) dX12_send_33 (by decide) q12 hr10 (fun c => ?_) (fun c => ?_)
      · have h := hT13 c
        refine xr_iconst dX12_send_38 ?_
        refine xr_istore_n' (ll' := [some (xr G 74), some (xi 0)]) dX12_send_39 (by decide) rfl rfl ?_
        exact h
      · have h := hF14 c
        refine xr_iconst dX12_send_36 ?_
        exact xr_iret dX12_send_37 rfl ⟨rfl, _, rfl, (by decide), h⟩
set_option maxRecDepth 20000 in
theorem B_X12_send_40 {G : xG} {l : Launch} {d : Nat} {P : Int → xMem → Prop} {v1 : Int} {μ : xMem} (h : (iR v1 ∧ iR (μ 74 3) ∧ ((μ 74 3) ≤ v1 → K_X12_send_70 G l (d + 1) P 0 μ) ∧ (v1 < (μ 74 3) → ((0 ≤ v1 ∧ v1 < 180) ∧ CI G l d mX12_isSmall [xi (μ 75 v1)] μ (fun r6 m7 => ((r6 ≠ 0 → K_X12_send_40 G l (d + 1) P (v1 + 1) m7) ∧ (r6 = 0 → P (-1) m7))))))) : K_X12_send_40 G l (d + 1) P v1 μ := by
  unfold K_X12_send_40
  refine xr_iload_n dX12_send_40 rfl ?_
  refine xr_aload_n dX12_send_41 rfl ?_
  refine xr_getI' (v := μ 74 3) dX12_send_42 fl_X12_195 L_74 rfl rfl rfl ?_
  obtain ⟨q1, q2, hT3, hF4⟩ := h
  refine xr_icmp_ge (tgt := 68) dX12_send_45 (by decide) q1 q2 (fun c => ?_) (fun c => ?_)
  · have h := hT3 c
    refine xr_iconst dX12_send_68 ?_
    refine xr_istore_n' (ll' := [some (xr G 74), some (xi 0)]) dX12_send_69 (by decide) rfl rfl ?_
    exact h
  · have h := hF4 (Int.not_le.mp c)
    refine xr_aload_n dX12_send_48 rfl ?_
    refine xr_getR dX12_send_49 fl_X12_7 L_74 rfl ?_
    refine xr_iload_n dX12_send_52 rfl ?_
    obtain ⟨q5, h⟩ := h
    refine xr_baload' (v := μ 75 v1) dX12_send_53 L_75 rfl (by decide) q5 rfl ?_
    refine xr_csI (As := [xi (μ 75 v1)]) dX12_send_54 ms_X12_isSmall ml_X12_211 rfl rfl (Nat.le_of_ble_eq_true rfl) h (fun r6 m7 hr6 h => ?_)
    obtain ⟨hT8, hF9⟩ := h
    refine xr_if_ne (tgt := 62) dX12_send_57 (by decide) hr6  (fun c => ?_) (fun c => ?_)
    · have h := hT8 c
      refine xr_iinc' (ll' := [some (xr G 74), some (xi (v1 + 1))]) dX12_send_62 rfl (by decide) rfl rfl ?_
      refine xr_goto (tgt := 40) dX12_send_65 (by decide) ?_
      exact h
    · have h := hF9 c
      refine xr_iconst dX12_send_60 ?_
      exact xr_iret dX12_send_61 rfl ⟨rfl, _, rfl, (by decide), h⟩
set_option maxRecDepth 20000 in
theorem B_X12_send_70 {G : xG} {l : Launch} {d : Nat} {P : Int → xMem → Prop} {v1 : Int} {μ : xMem} (h : (iR v1 ∧ iR (μ 74 3) ∧ ((μ 74 3) ≤ v1 → ((0 ≤ μ 74 81 ∧ μ 74 81 < 30) ∧ (iR (((μ 74 81) + 1) - 1) ∧ P (((μ 74 81) + 1) - 1) (st2 (st2 (st2 μ 127 (μ 74 81) (μ 74 3)) 128 (μ 74 81) (μ 74 4)) 74 81 ((μ 74 81) + 1))))) ∧ (v1 < (μ 74 3) → ((0 ≤ v1 ∧ v1 < 180) ∧ ((0 ≤ (160 * (μ 74 81)) + v1 ∧ (160 * (μ 74 81)) + v1 < 4800) ∧ K_X12_send_70 G l (d + 1) P (v1 + 1) (st2 μ 126 ((160 * (μ 74 81)) + v1) (j8 (μ 75 v1)))))))) : K_X12_send_70 G l (d + 1) P v1 μ := by
  unfold K_X12_send_70
  refine xr_iload_n dX12_send_70 rfl ?_
  refine xr_aload_n dX12_send_71 rfl ?_
  refine xr_getI' (v := μ 74 3) dX12_send_72 fl_X12_195 L_74 rfl rfl rfl ?_
  obtain ⟨q1, q2, hT3, hF4⟩ := h
  refine xr_icmp_ge (tgt := 105) dX12_send_75 (by decide) q1 q2 (fun c => ?_) (fun c => ?_)
  · have h := hT3 c
    refine xr_aload_n dX12_send_105 rfl ?_
    refine xr_getR dX12_send_106 fl_X12_176 L_74 rfl ?_
    refine xr_aload_n dX12_send_109 rfl ?_
    refine xr_getI' (v := μ 74 81) dX12_send_110 fl_X12_461 L_74 rfl rfl rfl ?_
    refine xr_aload_n dX12_send_113 rfl ?_
    refine xr_getI' (v := μ 74 3) dX12_send_114 fl_X12_195 L_74 rfl rfl rfl ?_
    obtain ⟨q5, h⟩ := h
    refine xr_iastore dX12_send_117 L_127 rfl (by decide) q5 ?_
    refine xr_aload_n dX12_send_118 rfl ?_
    refine xr_getR dX12_send_119 fl_X12_179 L_74 rfl ?_
    refine xr_aload_n dX12_send_122 rfl ?_
    refine xr_getI' (v := μ 74 81) dX12_send_123 fl_X12_461 L_74 rfl rfl (by simp [st2, cpy]) ?_
    refine xr_aload_n dX12_send_126 rfl ?_
    refine xr_getI' (v := μ 74 4) dX12_send_127 fl_X12_202 L_74 rfl rfl (by simp [st2, cpy]) ?_
    refine xr_iastore dX12_send_130 L_128 rfl (by decide) q5 ?_
    refine xr_aload_n dX12_send_131 rfl ?_
    refine xr_dup dX12_send_132 rfl ?_
    refine xr_getI' (v := μ 74 81) dX12_send_133 fl_X12_461 L_74 rfl rfl (by simp [st2, cpy]) ?_
    refine xr_iconst dX12_send_136 ?_
    refine xr_iadd dX12_send_137 ?_
    refine xr_putI dX12_send_138 fp_X12_461 L_74 rfl rfl ⟨rfl, rfl⟩ ?_
    refine xr_aload_n dX12_send_141 rfl ?_
    refine xr_getI' (v := (μ 74 81) + 1) dX12_send_142 fl_X12_461 L_74 rfl rfl (by simp [st2, cpy]) ?_
    refine xr_iconst dX12_send_145 ?_
    refine xr_isub dX12_send_146 ?_
    obtain ⟨q6, h⟩ := h
    exact xr_iret dX12_send_147 rfl ⟨rfl, _, rfl, q6, h⟩
  · have h := hF4 (Int.not_le.mp c)
    refine xr_aload_n dX12_send_78 rfl ?_
    refine xr_getR dX12_send_79 fl_X12_173 L_74 rfl ?_
    refine xr_sipush dX12_send_82 (by decide) ?_
    refine xr_aload_n dX12_send_85 rfl ?_
    refine xr_getI' (v := μ 74 81) dX12_send_86 fl_X12_461 L_74 rfl rfl rfl ?_
    refine xr_imul dX12_send_89 ?_
    refine xr_iload_n dX12_send_90 rfl ?_
    refine xr_iadd dX12_send_91 ?_
    refine xr_aload_n dX12_send_92 rfl ?_
    refine xr_getR dX12_send_93 fl_X12_7 L_74 rfl ?_
    refine xr_iload_n dX12_send_96 rfl ?_
    obtain ⟨q7, h⟩ := h
    refine xr_baload' (v := μ 75 v1) dX12_send_97 L_75 rfl (by decide) q7 rfl ?_
    obtain ⟨q8, h⟩ := h
    refine xr_bastore dX12_send_98 L_126 rfl (by decide) q8 ?_
    refine xr_iinc' (ll' := [some (xr G 74), some (xi (v1 + 1))]) dX12_send_99 rfl (by decide) rfl rfl ?_
    refine xr_goto (tgt := 70) dX12_send_102 (by decide) ?_
    exact h
theorem dX12_isSent_0 : decode cX12_isSent 0 = .ok (.iconst 0, 1) := by decide +kernel
theorem dX12_isSent_1 : decode cX12_isSent 1 = .ok (.istore 4, 2) := by decide +kernel
theorem dX12_isSent_3 : decode cX12_isSent 3 = .ok (.iload 4, 2) := by decide +kernel
theorem dX12_isSent_5 : decode cX12_isSent 5 = .ok (.aload_n 0, 1) := by decide +kernel
theorem dX12_isSent_6 : decode cX12_isSent 6 = .ok (.getfield 16, 3) := by decide +kernel
theorem dX12_isSent_9 : decode cX12_isSent 9 = .ok (.iload_n 3, 1) := by decide +kernel
theorem dX12_isSent_10 : decode cX12_isSent 10 = .ok (.iaload, 1) := by decide +kernel
theorem dX12_isSent_11 : decode cX12_isSent 11 = .ok (.if_icmp .ge 36, 3) := by decide +kernel
theorem dX12_isSent_14 : decode cX12_isSent 14 = .ok (.aload_n 0, 1) := by decide +kernel
theorem dX12_isSent_15 : decode cX12_isSent 15 = .ok (.getfield 173, 3) := by decide +kernel
theorem dX12_isSent_18 : decode cX12_isSent 18 = .ok (.sipush 160, 3) := by decide +kernel
theorem dX12_isSent_21 : decode cX12_isSent 21 = .ok (.iload_n 1, 1) := by decide +kernel
theorem dX12_isSent_22 : decode cX12_isSent 22 = .ok (.imul, 1) := by decide +kernel
theorem dX12_isSent_23 : decode cX12_isSent 23 = .ok (.iload_n 2, 1) := by decide +kernel
theorem dX12_isSent_24 : decode cX12_isSent 24 = .ok (.iadd, 1) := by decide +kernel
theorem dX12_isSent_25 : decode cX12_isSent 25 = .ok (.iload 4, 2) := by decide +kernel
theorem dX12_isSent_27 : decode cX12_isSent 27 = .ok (.iadd, 1) := by decide +kernel
theorem dX12_isSent_28 : decode cX12_isSent 28 = .ok (.baload, 1) := by decide +kernel
theorem dX12_isSent_29 : decode cX12_isSent 29 = .ok (.aload_n 0, 1) := by decide +kernel
theorem dX12_isSent_30 : decode cX12_isSent 30 = .ok (.iload_n 3, 1) := by decide +kernel
theorem dX12_isSent_31 : decode cX12_isSent 31 = .ok (.iload 4, 2) := by decide +kernel
theorem dX12_isSent_33 : decode cX12_isSent 33 = .ok (.invokevirtual 406, 3) := by decide +kernel
theorem dX12_isSent_36 : decode cX12_isSent 36 = .ok (.if_icmp .eq 5, 3) := by decide +kernel
theorem dX12_isSent_39 : decode cX12_isSent 39 = .ok (.iconst 0, 1) := by decide +kernel
theorem dX12_isSent_40 : decode cX12_isSent 40 = .ok (.ireturn, 1) := by decide +kernel
theorem dX12_isSent_41 : decode cX12_isSent 41 = .ok (.iinc 4 1, 3) := by decide +kernel
theorem dX12_isSent_44 : decode cX12_isSent 44 = .ok (.goto (-41), 3) := by decide +kernel
theorem dX12_isSent_47 : decode cX12_isSent 47 = .ok (.iconst 1, 1) := by decide +kernel
theorem dX12_isSent_48 : decode cX12_isSent 48 = .ok (.ireturn, 1) := by decide +kernel
def K_X12_isSent_3 (G : xG) (l : Launch) (d : Nat) (P : Int → xMem → Prop) (v1 v2 v3 v4 : Int) (μ : xMem) : Prop := RR G l d 0 0 false mX12_isSent (qI P) 3 [some (xr G 74), some (xi v1), some (xi v2), some (xi v3), some (xi v4)] [] LAY μ 0 0
set_option maxRecDepth 20000 in
theorem E_X12_isSent {G : xG} {l : Launch} {d : Nat} {P : Int → xMem → Prop} {v1 v2 v3 : Int} {μ : xMem} (h : K_X12_isSent_3 G l (d + 1) P v1 v2 v3 0 μ) : CI G l (d + 1) mX12_isSent [xr G 74, xi v1, xi v2, xi v3] μ P := by
  refine CC.ofRR (ll := [some (xr G 74), some (xi v1), some (xi v2), some (xi v3), none]) (by decide +kernel) (Nat.le_of_ble_eq_true rfl) rfl (fun h => by cases h) ?_
  refine xr_iconst dX12_isSent_0 ?_
  refine xr_istore' (ll' := [some (xr G 74), some (xi v1), some (xi v2), some (xi v3), some (xi 0)]) dX12_isSent_1 (by decide) rfl rfl ?_
  exact h
set_option maxRecDepth 20000 in
theorem B_X12_isSent_3 {G : xG} {l : Launch} {d : Nat} {P : Int → xMem → Prop} {v1 v2 v3 v4 : Int} {μ : xMem} (h : ((0 ≤ v3 ∧ v3 < 120) ∧ (iR v4 ∧ iR (μ 77 v3) ∧ ((μ 77 v3) ≤ v4 → P 1 μ) ∧ (v4 < (μ 77 v3) → ((0 ≤ ((160 * v1) + v2) + v4 ∧ ((160 * v1) + v2) + v4 < 4800) ∧ CI G l d mX12_letterOf [xr G 74, xi v3, xi v4] μ (fun r7 m8 => (iR (μ 126 (((160 * v1) + v2) + v4)) ∧ ((μ 126 (((160 * v1) + v2) + v4)) = r7 → K_X12_isSent_3 G l (d + 1) P v1 v2 v3 (v4 + 1) m8) ∧ ((μ 126 (((160 * v1) + v2) + v4)) ≠ r7 → P 0 m8)))))))) : K_X12_isSent_3 G l (d + 1) P v1 v2 v3 v4 μ := by
  unfold K_X12_isSent_3
  refine xr_iload dX12_isSent_3 rfl ?_
  refine xr_aload_n dX12_isSent_5 rfl ?_
  refine xr_getR dX12_isSent_6 fl_X12_16 L_74 rfl ?_
  refine xr_iload_n dX12_isSent_9 rfl ?_
  obtain ⟨q1, h⟩ := h
  refine xr_iaload' (v := μ 77 v3) dX12_isSent_10 L_77 rfl (by decide) q1 rfl ?_
  obtain ⟨q2, q3, hT4, hF5⟩ := h
  refine xr_icmp_ge (tgt := 47) dX12_isSent_11 (by decide) q2 q3 (fun c => ?_) (fun c => ?_)
  · have h := hT4 c
    refine xr_iconst dX12_isSent_47 ?_
    exact xr_zret dX12_isSent_48 rfl (x_nz (by decide)).1 ⟨rfl, _, rfl, x_01 (by decide), h⟩
  · have h := hF5 (Int.not_le.mp c)
    refine xr_aload_n dX12_isSent_14 rfl ?_
    refine xr_getR dX12_isSent_15 fl_X12_173 L_74 rfl ?_
    refine xr_sipush dX12_isSent_18 (by decide) ?_
    refine xr_iload_n dX12_isSent_21 rfl ?_
    refine xr_imul dX12_isSent_22 ?_
    refine xr_iload_n dX12_isSent_23 rfl ?_
    refine xr_iadd dX12_isSent_24 ?_
    refine xr_iload dX12_isSent_25 rfl ?_
    refine xr_iadd dX12_isSent_27 ?_
    obtain ⟨q6, h⟩ := h
    refine xr_baload' (v := μ 126 (((160 * v1) + v2) + v4)) dX12_isSent_28 L_126 rfl (by decide) q6 rfl ?_
    refine xr_aload_n dX12_isSent_29 rfl ?_
    refine xr_iload_n dX12_isSent_30 rfl ?_
    refine xr_iload dX12_isSent_31 rfl ?_
    refine xr_cvI (As := [xi v3, xi v4]) dX12_isSent_33 mi_X12_letterOf ml_X12_406 se_X12_letterOf L_74 rfl rfl rfl (Nat.le_of_ble_eq_true rfl) h (fun r7 m8 hr7 h => ?_)
    obtain ⟨q9, hT10, hF11⟩ := h
    refine xr_icmp_eq (tgt := 41) dX12_isSent_36 (by decide) q9 hr7 (fun c => ?_) (fun c => ?_)
    · have h := hT10 c
      refine xr_iinc' (ll' := [some (xr G 74), some (xi v1), some (xi v2), some (xi v3), some (xi (v4 + 1))]) dX12_isSent_41 rfl (by decide) rfl rfl ?_
      refine xr_goto (tgt := 3) dX12_isSent_44 (by decide) ?_
      exact h
    · have h := hF11 c
      refine xr_iconst dX12_isSent_39 ?_
      exact xr_zret dX12_isSent_40 rfl (x_nz (by decide)).1 ⟨rfl, _, rfl, x_01 (by decide), h⟩
theorem dX12_isRight_0 : decode cX12_isRight 0 = .ok (.aload_n 0, 1) := by decide +kernel
theorem dX12_isRight_1 : decode cX12_isRight 1 = .ok (.getfield 179, 3) := by decide +kernel
theorem dX12_isRight_4 : decode cX12_isRight 4 = .ok (.iload_n 1, 1) := by decide +kernel
theorem dX12_isRight_5 : decode cX12_isRight 5 = .ok (.iaload, 1) := by decide +kernel
theorem dX12_isRight_6 : decode cX12_isRight 6 = .ok (.iload_n 2, 1) := by decide +kernel
theorem dX12_isRight_7 : decode cX12_isRight 7 = .ok (.if_icmp .gt 16, 3) := by decide +kernel
theorem dX12_isRight_10 : decode cX12_isRight 10 = .ok (.aload_n 0, 1) := by decide +kernel
theorem dX12_isRight_11 : decode cX12_isRight 11 = .ok (.getfield 176, 3) := by decide +kernel
theorem dX12_isRight_14 : decode cX12_isRight 14 = .ok (.iload_n 1, 1) := by decide +kernel
theorem dX12_isRight_15 : decode cX12_isRight 15 = .ok (.iaload, 1) := by decide +kernel
theorem dX12_isRight_16 : decode cX12_isRight 16 = .ok (.aload_n 0, 1) := by decide +kernel
theorem dX12_isRight_17 : decode cX12_isRight 17 = .ok (.invokevirtual 464, 3) := by decide +kernel
theorem dX12_isRight_20 : decode cX12_isRight 20 = .ok (.if_icmp .eq 5, 3) := by decide +kernel
theorem dX12_isRight_23 : decode cX12_isRight 23 = .ok (.iconst 0, 1) := by decide +kernel
theorem dX12_isRight_24 : decode cX12_isRight 24 = .ok (.ireturn, 1) := by decide +kernel
theorem dX12_isRight_25 : decode cX12_isRight 25 = .ok (.aload_n 0, 1) := by decide +kernel
theorem dX12_isRight_26 : decode cX12_isRight 26 = .ok (.iload_n 2, 1) := by decide +kernel
theorem dX12_isRight_27 : decode cX12_isRight 27 = .ok (.invokevirtual 388, 3) := by decide +kernel
theorem dX12_isRight_30 : decode cX12_isRight 30 = .ok (.iconst 0, 1) := by decide +kernel
theorem dX12_isRight_31 : decode cX12_isRight 31 = .ok (.istore_n 3, 1) := by decide +kernel
theorem dX12_isRight_32 : decode cX12_isRight 32 = .ok (.iload_n 3, 1) := by decide +kernel
theorem dX12_isRight_33 : decode cX12_isRight 33 = .ok (.bipush 81, 2) := by decide +kernel
theorem dX12_isRight_35 : decode cX12_isRight 35 = .ok (.if_icmp .ge 16, 3) := by decide +kernel
theorem dX12_isRight_38 : decode cX12_isRight 38 = .ok (.aload_n 0, 1) := by decide +kernel
theorem dX12_isRight_39 : decode cX12_isRight 39 = .ok (.getfield 182, 3) := by decide +kernel
theorem dX12_isRight_42 : decode cX12_isRight 42 = .ok (.iload_n 3, 1) := by decide +kernel
theorem dX12_isRight_43 : decode cX12_isRight 43 = .ok (.iconst 0, 1) := by decide +kernel
theorem dX12_isRight_44 : decode cX12_isRight 44 = .ok (.iastore, 1) := by decide +kernel
theorem dX12_isRight_45 : decode cX12_isRight 45 = .ok (.iinc 3 1, 3) := by decide +kernel
theorem dX12_isRight_48 : decode cX12_isRight 48 = .ok (.goto (-16), 3) := by decide +kernel
theorem dX12_isRight_51 : decode cX12_isRight 51 = .ok (.iconst 0, 1) := by decide +kernel
theorem dX12_isRight_52 : decode cX12_isRight 52 = .ok (.istore_n 3, 1) := by decide +kernel
theorem dX12_isRight_53 : decode cX12_isRight 53 = .ok (.iconst 0, 1) := by decide +kernel
theorem dX12_isRight_54 : decode cX12_isRight 54 = .ok (.istore 4, 2) := by decide +kernel
theorem dX12_isRight_56 : decode cX12_isRight 56 = .ok (.iload 4, 2) := by decide +kernel
theorem dX12_isRight_58 : decode cX12_isRight 58 = .ok (.bipush 16, 2) := by decide +kernel
theorem dX12_isRight_60 : decode cX12_isRight 60 = .ok (.if_icmp .ge 209, 3) := by decide +kernel
theorem dX12_isRight_63 : decode cX12_isRight 63 = .ok (.aload_n 0, 1) := by decide +kernel
theorem dX12_isRight_64 : decode cX12_isRight 64 = .ok (.getfield 146, 3) := by decide +kernel
theorem dX12_isRight_67 : decode cX12_isRight 67 = .ok (.iload 4, 2) := by decide +kernel
theorem dX12_isRight_69 : decode cX12_isRight 69 = .ok (.baload, 1) := by decide +kernel
theorem dX12_isRight_70 : decode cX12_isRight 70 = .ok (.ifCond .ne 6, 3) := by decide +kernel
theorem dX12_isRight_73 : decode cX12_isRight 73 = .ok (.goto 190, 3) := by decide +kernel
theorem dX12_isRight_76 : decode cX12_isRight 76 = .ok (.aload_n 0, 1) := by decide +kernel
theorem dX12_isRight_77 : decode cX12_isRight 77 = .ok (.iload 4, 2) := by decide +kernel
theorem dX12_isRight_79 : decode cX12_isRight 79 = .ok (.iload_n 2, 1) := by decide +kernel
theorem dX12_isRight_80 : decode cX12_isRight 80 = .ok (.invokevirtual 449, 3) := by decide +kernel
theorem dX12_isRight_83 : decode cX12_isRight 83 = .ok (.istore 5, 2) := by decide +kernel
theorem dX12_isRight_85 : decode cX12_isRight 85 = .ok (.iload 5, 2) := by decide +kernel
theorem dX12_isRight_87 : decode cX12_isRight 87 = .ok (.ifCond .lt 18, 3) := by decide +kernel
theorem dX12_isRight_90 : decode cX12_isRight 90 = .ok (.aload_n 0, 1) := by decide +kernel
theorem dX12_isRight_91 : decode cX12_isRight 91 = .ok (.iload_n 1, 1) := by decide +kernel
theorem dX12_isRight_92 : decode cX12_isRight 92 = .ok (.iload_n 3, 1) := by decide +kernel
theorem dX12_isRight_93 : decode cX12_isRight 93 = .ok (.iload 5, 2) := by decide +kernel
theorem dX12_isRight_95 : decode cX12_isRight 95 = .ok (.invokevirtual 468, 3) := by decide +kernel
theorem dX12_isRight_98 : decode cX12_isRight 98 = .ok (.ifCond .eq 7, 3) := by decide +kernel
theorem dX12_isRight_101 : decode cX12_isRight 101 = .ok (.iconst 1, 1) := by decide +kernel
theorem dX12_isRight_102 : decode cX12_isRight 102 = .ok (.goto 4, 3) := by decide +kernel
theorem dX12_isRight_105 : decode cX12_isRight 105 = .ok (.iconst 0, 1) := by decide +kernel
theorem dX12_isRight_106 : decode cX12_isRight 106 = .ok (.istore 6, 2) := by decide +kernel
theorem dX12_isRight_108 : decode cX12_isRight 108 = .ok (.iconst 0, 1) := by decide +kernel
theorem dX12_isRight_109 : decode cX12_isRight 109 = .ok (.istore 7, 2) := by decide +kernel
theorem dX12_isRight_111 : decode cX12_isRight 111 = .ok (.iload 7, 2) := by decide +kernel
theorem dX12_isRight_113 : decode cX12_isRight 113 = .ok (.aload_n 0, 1) := by decide +kernel
theorem dX12_isRight_114 : decode cX12_isRight 114 = .ok (.getfield 208, 3) := by decide +kernel
theorem dX12_isRight_117 : decode cX12_isRight 117 = .ok (.if_icmp .ge 48, 3) := by decide +kernel
theorem dX12_isRight_120 : decode cX12_isRight 120 = .ok (.iload 6, 2) := by decide +kernel
theorem dX12_isRight_122 : decode cX12_isRight 122 = .ok (.ifCond .ne 43, 3) := by decide +kernel
theorem dX12_isRight_125 : decode cX12_isRight 125 = .ok (.aload_n 0, 1) := by decide +kernel
theorem dX12_isRight_126 : decode cX12_isRight 126 = .ok (.getfield 119, 3) := by decide +kernel
theorem dX12_isRight_129 : decode cX12_isRight 129 = .ok (.bipush 120, 2) := by decide +kernel
theorem dX12_isRight_131 : decode cX12_isRight 131 = .ok (.iload 4, 2) := by decide +kernel
theorem dX12_isRight_133 : decode cX12_isRight 133 = .ok (.imul, 1) := by decide +kernel
theorem dX12_isRight_134 : decode cX12_isRight 134 = .ok (.iload 7, 2) := by decide +kernel
theorem dX12_isRight_136 : decode cX12_isRight 136 = .ok (.iadd, 1) := by decide +kernel
theorem dX12_isRight_137 : decode cX12_isRight 137 = .ok (.baload, 1) := by decide +kernel
theorem dX12_isRight_138 : decode cX12_isRight 138 = .ok (.ifCond .eq 18, 3) := by decide +kernel
theorem dX12_isRight_141 : decode cX12_isRight 141 = .ok (.aload_n 0, 1) := by decide +kernel
theorem dX12_isRight_142 : decode cX12_isRight 142 = .ok (.iload_n 1, 1) := by decide +kernel
theorem dX12_isRight_143 : decode cX12_isRight 143 = .ok (.iload_n 3, 1) := by decide +kernel
theorem dX12_isRight_144 : decode cX12_isRight 144 = .ok (.iload 7, 2) := by decide +kernel
theorem dX12_isRight_146 : decode cX12_isRight 146 = .ok (.invokevirtual 468, 3) := by decide +kernel
theorem dX12_isRight_149 : decode cX12_isRight 149 = .ok (.ifCond .eq 7, 3) := by decide +kernel
theorem dX12_isRight_152 : decode cX12_isRight 152 = .ok (.iconst 1, 1) := by decide +kernel
theorem dX12_isRight_153 : decode cX12_isRight 153 = .ok (.goto 4, 3) := by decide +kernel
theorem dX12_isRight_156 : decode cX12_isRight 156 = .ok (.iconst 0, 1) := by decide +kernel
theorem dX12_isRight_157 : decode cX12_isRight 157 = .ok (.istore 6, 2) := by decide +kernel
theorem dX12_isRight_159 : decode cX12_isRight 159 = .ok (.iinc 7 1, 3) := by decide +kernel
theorem dX12_isRight_162 : decode cX12_isRight 162 = .ok (.goto (-51), 3) := by decide +kernel
theorem dX12_isRight_165 : decode cX12_isRight 165 = .ok (.iload 6, 2) := by decide +kernel
theorem dX12_isRight_167 : decode cX12_isRight 167 = .ok (.ifCond .ne 5, 3) := by decide +kernel
theorem dX12_isRight_170 : decode cX12_isRight 170 = .ok (.iconst 0, 1) := by decide +kernel
theorem dX12_isRight_171 : decode cX12_isRight 171 = .ok (.ireturn, 1) := by decide +kernel
theorem dX12_isRight_172 : decode cX12_isRight 172 = .ok (.iconst 0, 1) := by decide +kernel
theorem dX12_isRight_173 : decode cX12_isRight 173 = .ok (.istore 7, 2) := by decide +kernel
theorem dX12_isRight_175 : decode cX12_isRight 175 = .ok (.iload 7, 2) := by decide +kernel
theorem dX12_isRight_177 : decode cX12_isRight 177 = .ok (.aload_n 0, 1) := by decide +kernel
theorem dX12_isRight_178 : decode cX12_isRight 178 = .ok (.getfield 53, 3) := by decide +kernel
theorem dX12_isRight_181 : decode cX12_isRight 181 = .ok (.iload 4, 2) := by decide +kernel
theorem dX12_isRight_183 : decode cX12_isRight 183 = .ok (.iaload, 1) := by decide +kernel
theorem dX12_isRight_184 : decode cX12_isRight 184 = .ok (.if_icmp .ge 69, 3) := by decide +kernel
theorem dX12_isRight_187 : decode cX12_isRight 187 = .ok (.aload_n 0, 1) := by decide +kernel
theorem dX12_isRight_188 : decode cX12_isRight 188 = .ok (.iload 4, 2) := by decide +kernel
theorem dX12_isRight_190 : decode cX12_isRight 190 = .ok (.iload 7, 2) := by decide +kernel
theorem dX12_isRight_192 : decode cX12_isRight 192 = .ok (.invokevirtual 391, 3) := by decide +kernel
theorem dX12_isRight_195 : decode cX12_isRight 195 = .ok (.istore 8, 2) := by decide +kernel
theorem dX12_isRight_197 : decode cX12_isRight 197 = .ok (.aload_n 0, 1) := by decide +kernel
theorem dX12_isRight_198 : decode cX12_isRight 198 = .ok (.getfield 173, 3) := by decide +kernel
theorem dX12_isRight_201 : decode cX12_isRight 201 = .ok (.sipush 160, 3) := by decide +kernel
theorem dX12_isRight_204 : decode cX12_isRight 204 = .ok (.iload_n 1, 1) := by decide +kernel
theorem dX12_isRight_205 : decode cX12_isRight 205 = .ok (.imul, 1) := by decide +kernel
theorem dX12_isRight_206 : decode cX12_isRight 206 = .ok (.iload_n 3, 1) := by decide +kernel
theorem dX12_isRight_207 : decode cX12_isRight 207 = .ok (.iadd, 1) := by decide +kernel
theorem dX12_isRight_208 : decode cX12_isRight 208 = .ok (.iload 7, 2) := by decide +kernel
theorem dX12_isRight_210 : decode cX12_isRight 210 = .ok (.iadd, 1) := by decide +kernel
theorem dX12_isRight_211 : decode cX12_isRight 211 = .ok (.baload, 1) := by decide +kernel
theorem dX12_isRight_212 : decode cX12_isRight 212 = .ok (.istore 9, 2) := by decide +kernel
theorem dX12_isRight_214 : decode cX12_isRight 214 = .ok (.aload_n 0, 1) := by decide +kernel
theorem dX12_isRight_215 : decode cX12_isRight 215 = .ok (.getfield 182, 3) := by decide +kernel
theorem dX12_isRight_218 : decode cX12_isRight 218 = .ok (.iload 8, 2) := by decide +kernel
theorem dX12_isRight_220 : decode cX12_isRight 220 = .ok (.iaload, 1) := by decide +kernel
theorem dX12_isRight_221 : decode cX12_isRight 221 = .ok (.ifCond .le 17, 3) := by decide +kernel
theorem dX12_isRight_224 : decode cX12_isRight 224 = .ok (.aload_n 0, 1) := by decide +kernel
theorem dX12_isRight_225 : decode cX12_isRight 225 = .ok (.getfield 182, 3) := by decide +kernel
theorem dX12_isRight_228 : decode cX12_isRight 228 = .ok (.iload 8, 2) := by decide +kernel
theorem dX12_isRight_230 : decode cX12_isRight 230 = .ok (.iaload, 1) := by decide +kernel
theorem dX12_isRight_231 : decode cX12_isRight 231 = .ok (.iload 9, 2) := by decide +kernel
theorem dX12_isRight_233 : decode cX12_isRight 233 = .ok (.if_icmp .eq 5, 3) := by decide +kernel
theorem dX12_isRight_236 : decode cX12_isRight 236 = .ok (.iconst 0, 1) := by decide +kernel
theorem dX12_isRight_237 : decode cX12_isRight 237 = .ok (.ireturn, 1) := by decide +kernel
theorem dX12_isRight_238 : decode cX12_isRight 238 = .ok (.aload_n 0, 1) := by decide +kernel
theorem dX12_isRight_239 : decode cX12_isRight 239 = .ok (.getfield 182, 3) := by decide +kernel
theorem dX12_isRight_242 : decode cX12_isRight 242 = .ok (.iload 8, 2) := by decide +kernel
theorem dX12_isRight_244 : decode cX12_isRight 244 = .ok (.iload 9, 2) := by decide +kernel
theorem dX12_isRight_246 : decode cX12_isRight 246 = .ok (.iastore, 1) := by decide +kernel
theorem dX12_isRight_247 : decode cX12_isRight 247 = .ok (.iinc 7 1, 3) := by decide +kernel
theorem dX12_isRight_250 : decode cX12_isRight 250 = .ok (.goto (-75), 3) := by decide +kernel
theorem dX12_isRight_253 : decode cX12_isRight 253 = .ok (.iload_n 3, 1) := by decide +kernel
theorem dX12_isRight_254 : decode cX12_isRight 254 = .ok (.aload_n 0, 1) := by decide +kernel
theorem dX12_isRight_255 : decode cX12_isRight 255 = .ok (.getfield 53, 3) := by decide +kernel
theorem dX12_isRight_258 : decode cX12_isRight 258 = .ok (.iload 4, 2) := by decide +kernel
theorem dX12_isRight_260 : decode cX12_isRight 260 = .ok (.iaload, 1) := by decide +kernel
theorem dX12_isRight_261 : decode cX12_isRight 261 = .ok (.iadd, 1) := by decide +kernel
theorem dX12_isRight_262 : decode cX12_isRight 262 = .ok (.istore_n 3, 1) := by decide +kernel
theorem dX12_isRight_263 : decode cX12_isRight 263 = .ok (.iinc 4 1, 3) := by decide +kernel
theorem dX12_isRight_266 : decode cX12_isRight 266 = .ok (.goto (-210), 3) := by decide +kernel
theorem dX12_isRight_269 : decode cX12_isRight 269 = .ok (.iconst 1, 1) := by decide +kernel
theorem dX12_isRight_270 : decode cX12_isRight 270 = .ok (.ireturn, 1) := by decide +kernel
def K_X12_isRight_32 (G : xG) (l : Launch) (d : Nat) (P : Int → xMem → Prop) (v1 v2 v3 : Int) (μ : xMem) : Prop := RR G l d 0 0 false mX12_isRight (qI P) 32 [some (xr G 74), some (xi v1), some (xi v2), some (xi v3), none, none, none, none, none, none] [] LAY μ 0 0
def K_X12_isRight_56 (G : xG) (l : Launch) (d : Nat) (P : Int → xMem → Prop) (v1 v2 v3 v4 : Int) (μ : xMem) : Prop := RR G l d 0 0 false mX12_isRight (qI P) 56 [some (xr G 74), some (xi v1), some (xi v2), some (xi v3), some (xi v4), none, none, none, none, none] [] LAY μ 0 0
def K_X12_isRight_111 (G : xG) (l : Launch) (d : Nat) (P : Int → xMem → Prop) (v1 v2 v3 v4 v6 v7 : Int) (μ : xMem) : Prop := RR G l d 0 0 false mX12_isRight (qI P) 111 [some (xr G 74), some (xi v1), some (xi v2), some (xi v3), some (xi v4), none, some (xi v6), some (xi v7), none, none] [] LAY μ 0 0
def K_X12_isRight_175 (G : xG) (l : Launch) (d : Nat) (P : Int → xMem → Prop) (v1 v2 v3 v4 v7 : Int) (μ : xMem) : Prop := RR G l d 0 0 false mX12_isRight (qI P) 175 [some (xr G 74), some (xi v1), some (xi v2), some (xi v3), some (xi v4), none, none, some (xi v7), none, none] [] LAY μ 0 0
set_option maxRecDepth 20000 in
theorem E_X12_isRight {G : xG} {l : Launch} {d : Nat} {P : Int → xMem → Prop} {v1 v2 : Int} {μ : xMem} (h : ((0 ≤ v1 ∧ v1 < 30) ∧ (iR (μ 128 v1) ∧ iR v2 ∧ (v2 < (μ 128 v1) → P 0 μ) ∧ ((μ 128 v1) ≤ v2 → CI G l d mX12_allLetters [xr G 74] μ (fun r6 m7 => (iR (μ 127 v1) ∧ ((μ 127 v1) = r6 → CV G l d mX12_find [xr G 74, xi v2] m7 (fun m12 => K_X12_isRight_32 G l (d + 1) P v1 v2 0 m12)) ∧ ((μ 127 v1) ≠ r6 → P 0 m7))))))) : CI G l (d + 1) mX12_isRight [xr G 74, xi v1, xi v2] μ P := by
  refine CC.ofRR (ll := [some (xr G 74), some (xi v1), some (xi v2), none, none, none, none, none, none, none]) (by decide +kernel) (Nat.le_of_ble_eq_true rfl) rfl (fun h => by cases h) ?_
  refine xr_aload_n dX12_isRight_0 rfl ?_
  refine xr_getR dX12_isRight_1 fl_X12_179 L_74 rfl ?_
  refine xr_iload_n dX12_isRight_4 rfl ?_
  obtain ⟨q1, h⟩ := h
  refine xr_iaload' (v := μ 128 v1) dX12_isRight_5 L_128 rfl (by decide) q1 rfl ?_
  refine xr_iload_n dX12_isRight_6 rfl ?_
  obtain ⟨q2, q3, hT4, hF5⟩ := h
  refine xr_icmp_gt (tgt := 23) dX12_isRight_7 (by decide) q2 q3 (fun c => ?_) (fun c => ?_)
  · have h := hT4 c
    refine xr_iconst dX12_isRight_23 ?_
    exact xr_zret dX12_isRight_24 rfl (x_nz (by decide)).1 ⟨rfl, _, rfl, x_01 (by decide), h⟩
  · have h := hF5 (Int.not_lt.mp c)
    refine xr_aload_n dX12_isRight_10 rfl ?_
    refine xr_getR dX12_isRight_11 fl_X12_176 L_74 rfl ?_
    refine xr_iload_n dX12_isRight_14 rfl ?_
    refine xr_iaload' (v := μ 127 v1) dX12_isRight_15 L_127 rfl (by decide) q1 rfl ?_
    refine xr_aload_n dX12_isRight_16 rfl ?_
    refine xr_cvI (As := []) dX12_isRight_17 mi_X12_allLetters ml_X12_464 se_X12_allLetters L_74 rfl rfl rfl (Nat.le_of_ble_eq_true rfl) h (fun r6 m7 hr6 h => ?_)
    obtain ⟨q8, hT9, hF10⟩ := h
    refine xr_icmp_eq (tgt := 25) dX12_isRight_20 (by decide) q8 hr6 (fun c => ?_) (fun c => ?_)
    · have h := hT9 c
      refine xr_aload_n dX12_isRight_25 rfl ?_
      refine xr_iload_n dX12_isRight_26 rfl ?_
      refine xr_cvV (As := [xi v2]) dX12_isRight_27 mi_X12_find ml_X12_388 se_X12_find L_74 rfl rfl rfl (Nat.le_of_ble_eq_true rfl) h (fun m12 h => ?_)
      refine xr_iconst dX12_isRight_30 ?_
      refine xr_istore_n' (ll' := [some (xr G 74), some (xi v1), some (xi v2), some (xi 0), none, none, none, none, none, none]) dX12_isRight_31 (by decide) rfl rfl ?_
      exact h
    · have h := hF10 c
      refine xr_iconst dX12_isRight_23 ?_
      exact xr_zret dX12_isRight_24 rfl (x_nz (by decide)).1 ⟨rfl, _, rfl, x_01 (by decide), h⟩
set_option maxRecDepth 20000 in
theorem B_X12_isRight_32 {G : xG} {l : Launch} {d : Nat} {P : Int → xMem → Prop} {v1 v2 v3 : Int} {μ : xMem} (h : (iR v3 ∧ (81 ≤ v3 → K_X12_isRight_56 G l (d + 1) P v1 v2 0 0 μ) ∧ (v3 < 81 → ((0 ≤ v3 ∧ v3 < 81) ∧ K_X12_isRight_32 G l (d + 1) P v1 v2 (v3 + 1) (st2 μ 129 v3 0))))) : K_X12_isRight_32 G l (d + 1) P v1 v2 v3 μ := by
  unfold K_X12_isRight_32
  refine xr_iload_n dX12_isRight_32 rfl ?_
  refine xr_bipush dX12_isRight_33 (by decide) ?_
  obtain ⟨q1, hT2, hF3⟩ := h
  refine xr_icmp_ge (tgt := 51) dX12_isRight_35 (by decide) q1 (by decide) (fun c => ?_) (fun c => ?_)
  · have h := hT2 c
    refine xr_iconst dX12_isRight_51 ?_
    refine xr_istore_n' (ll' := [some (xr G 74), some (xi v1), some (xi v2), some (xi 0), none, none, none, none, none, none]) dX12_isRight_52 (by decide) rfl rfl ?_
    refine xr_iconst dX12_isRight_53 ?_
    refine xr_istore' (ll' := [some (xr G 74), some (xi v1), some (xi v2), some (xi 0), some (xi 0), none, none, none, none, none]) dX12_isRight_54 (by decide) rfl rfl ?_
    exact h
  · have h := hF3 (Int.not_le.mp c)
    refine xr_aload_n dX12_isRight_38 rfl ?_
    refine xr_getR dX12_isRight_39 fl_X12_182 L_74 rfl ?_
    refine xr_iload_n dX12_isRight_42 rfl ?_
    refine xr_iconst dX12_isRight_43 ?_
    obtain ⟨q4, h⟩ := h
    refine xr_iastore dX12_isRight_44 L_129 rfl (by decide) q4 ?_
    refine xr_iinc' (ll' := [some (xr G 74), some (xi v1), some (xi v2), some (xi (v3 + 1)), none, none, none, none, none, none]) dX12_isRight_45 rfl (by decide) rfl rfl ?_
    refine xr_goto (tgt := 32) dX12_isRight_48 (by decide) ?_
    exact h
set_option maxRecDepth 20000 in
theorem B_X12_isRight_56 {G : xG} {l : Launch} {d : Nat} {P : Int → xMem → Prop} {v1 v2 v3 v4 : Int} {μ : xMem} (h : (iR v4 ∧ (16 ≤ v4 → P 1 μ) ∧ (v4 < 16 → ((0 ≤ v4 ∧ v4 < 16) ∧ (iR (μ 117 v4) ∧ ((μ 117 v4) ≠ 0 → CI G l d mX12_solutionOf [xr G 74, xi v4, xi v2] μ (fun r8 m9 => ((r8 < 0 → K_X12_isRight_111 G l (d + 1) P v1 v2 v3 v4 0 0 m9) ∧ (0 ≤ r8 → CI G l d mX12_isSent [xr G 74, xi v1, xi v3, xi r8] m9 (fun r12 m13 => ((r12 = 0 → K_X12_isRight_111 G l (d + 1) P v1 v2 v3 v4 0 0 m13) ∧ (r12 ≠ 0 → K_X12_isRight_111 G l (d + 1) P v1 v2 v3 v4 1 0 m13))))))) ∧ ((μ 117 v4) = 0 → K_X12_isRight_56 G l (d + 1) P v1 v2 v3 (v4 + 1) μ)))))) : K_X12_isRight_56 G l (d + 1) P v1 v2 v3 v4 μ := by
  unfold K_X12_isRight_56
  refine xr_iload dX12_isRight_56 rfl ?_
  refine xr_bipush dX12_isRight_58 (by decide) ?_
  obtain ⟨q1, hT2, hF3⟩ := h
  refine xr_icmp_ge (tgt := 269) dX12_isRight_60 (by decide) q1 (by decide) (fun c => ?_) (fun c => ?_)
  · have h := hT2 c
    refine xr_iconst dX12_isRight_269 ?_
    exact xr_zret dX12_isRight_270 rfl (x_nz (by decide)).1 ⟨rfl, _, rfl, x_01 (by decide), h⟩
  · have h := hF3 (Int.not_le.mp c)
    refine xr_aload_n dX12_isRight_63 rfl ?_
    refine xr_getR dX12_isRight_64 fl_X12_146 L_74 rfl ?_
    refine xr_iload dX12_isRight_67 rfl ?_
    obtain ⟨q4, h⟩ := h
    refine xr_zaload' (v := μ 117 v4) dX12_isRight_69 L_117 rfl (by decide) q4 rfl ?_
    obtain ⟨q5, hT6, hF7⟩ := h
    refine xr_if_ne (tgt := 76) dX12_isRight_70 (by decide) q5  (fun c => ?_) (fun c => ?_)
    · have h := hT6 c
      refine xr_aload_n dX12_isRight_76 rfl ?_
      refine xr_iload dX12_isRight_77 rfl ?_
      refine xr_iload_n dX12_isRight_79 rfl ?_
      refine xr_cvI (As := [xi v4, xi v2]) dX12_isRight_80 mi_X12_solutionOf ml_X12_449 se_X12_solutionOf L_74 rfl rfl rfl (Nat.le_of_ble_eq_true rfl) h (fun r8 m9 hr8 h => ?_)
      refine xr_istore' (ll' := [some (xr G 74), some (xi v1), some (xi v2), some (xi v3), some (xi v4), some (xi r8), none, none, none, none]) dX12_isRight_83 (by decide) rfl rfl ?_
      refine xr_iload dX12_isRight_85 rfl ?_
      obtain ⟨hT10, hF11⟩ := h
      refine xr_if_lt (tgt := 105) dX12_isRight_87 (by decide) hr8  (fun c => ?_) (fun c => ?_)
      · have h := hT10 c
        refine xr_iconst dX12_isRight_105 ?_
        refine xr_istore' (ll' := [some (xr G 74), some (xi v1), some (xi v2), some (xi v3), some (xi v4), some (xi r8), some (xi 0), none, none, none]) dX12_isRight_106 (by decide) rfl rfl ?_
        refine xr_iconst dX12_isRight_108 ?_
        refine xr_istore' (ll' := [some (xr G 74), some (xi v1), some (xi v2), some (xi v3), some (xi v4), some (xi r8), some (xi 0), some (xi 0), none, none]) dX12_isRight_109 (by decide) rfl rfl ?_
        refine xr_wk (ll' := [some (xr G 74), some (xi v1), some (xi v2), some (xi v3), some (xi v4), none, some (xi 0), some (xi 0), none, none]) ⟨rfl, ⟨rfl, ⟨rfl, ⟨rfl, ⟨rfl, ⟨rfl, ⟨rfl, trivial⟩⟩⟩⟩⟩⟩⟩ ?_
        exact h
      · have h := hF11 (Int.not_lt.mp c)
        refine xr_aload_n dX12_isRight_90 rfl ?_
        refine xr_iload_n dX12_isRight_91 rfl ?_
        refine xr_iload_n dX12_isRight_92 rfl ?_
        refine xr_iload dX12_isRight_93 rfl ?_
        refine xr_cvI (As := [xi v1, xi v3, xi r8]) dX12_isRight_95 mi_X12_isSent ml_X12_468 se_X12_isSent L_74 rfl rfl rfl (Nat.le_of_ble_eq_true rfl) h (fun r12 m13 hr12 h => ?_)
        obtain ⟨hT14, hF15⟩ := h
        refine xr_if_eq (tgt := 105) dX12_isRight_98 (by decide) hr12  (fun c => ?_) (fun c => ?_)
        · have h := hT14 c
          refine xr_iconst dX12_isRight_105 ?_
          refine xr_istore' (ll' := [some (xr G 74), some (xi v1), some (xi v2), some (xi v3), some (xi v4), some (xi r8), some (xi 0), none, none, none]) dX12_isRight_106 (by decide) rfl rfl ?_
          refine xr_iconst dX12_isRight_108 ?_
          refine xr_istore' (ll' := [some (xr G 74), some (xi v1), some (xi v2), some (xi v3), some (xi v4), some (xi r8), some (xi 0), some (xi 0), none, none]) dX12_isRight_109 (by decide) rfl rfl ?_
          refine xr_wk (ll' := [some (xr G 74), some (xi v1), some (xi v2), some (xi v3), some (xi v4), none, some (xi 0), some (xi 0), none, none]) ⟨rfl, ⟨rfl, ⟨rfl, ⟨rfl, ⟨rfl, ⟨rfl, ⟨rfl, trivial⟩⟩⟩⟩⟩⟩⟩ ?_
          exact h
        · have h := hF15 c
          refine xr_iconst dX12_isRight_101 ?_
          refine xr_goto (tgt := 106) dX12_isRight_102 (by decide) ?_
          refine xr_istore' (ll' := [some (xr G 74), some (xi v1), some (xi v2), some (xi v3), some (xi v4), some (xi r8), some (xi 1), none, none, none]) dX12_isRight_106 (by decide) rfl rfl ?_
          refine xr_iconst dX12_isRight_108 ?_
          refine xr_istore' (ll' := [some (xr G 74), some (xi v1), some (xi v2), some (xi v3), some (xi v4), some (xi r8), some (xi 1), some (xi 0), none, none]) dX12_isRight_109 (by decide) rfl rfl ?_
          refine xr_wk (ll' := [some (xr G 74), some (xi v1), some (xi v2), some (xi v3), some (xi v4), none, some (xi 1), some (xi 0), none, none]) ⟨rfl, ⟨rfl, ⟨rfl, ⟨rfl, ⟨rfl, ⟨rfl, ⟨rfl, trivial⟩⟩⟩⟩⟩⟩⟩ ?_
          exact h
    · have h := hF7 c
      refine xr_goto (tgt := 263) dX12_isRight_73 (by decide) ?_
      refine xr_iinc' (ll' := [some (xr G 74), some (xi v1), some (xi v2), some (xi v3), some (xi (v4 + 1)), none, none, none, none, none]) dX12_isRight_263 rfl (by decide) rfl rfl ?_
      refine xr_goto (tgt := 56) dX12_isRight_266 (by decide) ?_
      exact h
set_option maxRecDepth 20000 in
theorem B_X12_isRight_111 {G : xG} {l : Launch} {d : Nat} {P : Int → xMem → Prop} {v1 v2 v3 v4 v6 v7 : Int} {μ : xMem} (h : (iR v7 ∧ iR (μ 74 20) ∧ ((μ 74 20) ≤ v7 → (iR v6 ∧ (v6 ≠ 0 → K_X12_isRight_175 G l (d + 1) P v1 v2 v3 v4 0 μ) ∧ (v6 = 0 → P 0 μ))) ∧ (v7 < (μ 74 20) → (iR v6 ∧ (v6 ≠ 0 → ((v6 ≠ 0 → K_X12_isRight_175 G l (d + 1) P v1 v2 v3 v4 0 μ) ∧ (v6 = 0 → P 0 μ))) ∧ (v6 = 0 → ((0 ≤ (120 * v4) + v7 ∧ (120 * v4) + v7 < 1920) ∧ (iR (μ 108 ((120 * v4) + v7)) ∧ ((μ 108 ((120 * v4) + v7)) = 0 → K_X12_isRight_111 G l (d + 1) P v1 v2 v3 v4 0 (v7 + 1) μ) ∧ ((μ 108 ((120 * v4) + v7)) ≠ 0 → CI G l d mX12_isSent [xr G 74, xi v1, xi v3, xi v7] μ (fun r17 m18 => ((r17 = 0 → K_X12_isRight_111 G l (d + 1) P v1 v2 v3 v4 0 (v7 + 1) m18) ∧ (r17 ≠ 0 → K_X12_isRight_111 G l (d + 1) P v1 v2 v3 v4 1 (v7 + 1) m18))))))))))) : K_X12_isRight_111 G l (d + 1) P v1 v2 v3 v4 v6 v7 μ := by
  unfold K_X12_isRight_111
  refine xr_iload dX12_isRight_111 rfl ?_
  refine xr_aload_n dX12_isRight_113 rfl ?_
  refine xr_getI' (v := μ 74 20) dX12_isRight_114 fl_X12_208 L_74 rfl rfl rfl ?_
  obtain ⟨q1, q2, hT3, hF4⟩ := h
  refine xr_icmp_ge (tgt := 165) dX12_isRight_117 (by decide) q1 q2 (fun c => ?_) (fun c => ?_)
  · have h := hT3 c
    refine xr_iload dX12_isRight_165 rfl ?_
    obtain ⟨q5, hT6, hF7⟩ := h
    refine xr_if_ne (tgt := 172) dX12_isRight_167 (by decide) q5  (fun c => ?_) (fun c => ?_)
    · have h := hT6 c
      refine xr_iconst dX12_isRight_172 ?_
      refine xr_istore' (ll' := [some (xr G 74), some (xi v1), some (xi v2), some (xi v3), some (xi v4), none, some (xi v6), some (xi 0), none, none]) dX12_isRight_173 (by decide) rfl rfl ?_
      refine xr_wk (ll' := [some (xr G 74), some (xi v1), some (xi v2), some (xi v3), some (xi v4), none, none, some (xi 0), none, none]) ⟨rfl, ⟨rfl, ⟨rfl, ⟨rfl, ⟨rfl, ⟨rfl, trivial⟩⟩⟩⟩⟩⟩ ?_
      exact h
    · have h := hF7 c
      refine xr_iconst dX12_isRight_170 ?_
      exact xr_zret dX12_isRight_171 rfl (x_nz (by decide)).1 ⟨rfl, _, rfl, x_01 (by decide), h⟩
  · have h := hF4 (Int.not_le.mp c)
    refine xr_iload dX12_isRight_120 rfl ?_
    obtain ⟨q8, hT9, hF10⟩ := h
    refine xr_if_ne (tgt := 165) dX12_isRight_122 (by decide) q8  (fun c => ?_) (fun c => ?_)
    · have h := hT9 c
      refine xr_iload dX12_isRight_165 rfl ?_
      obtain ⟨hT11, hF12⟩ := h
      refine xr_if_ne (tgt := 172) dX12_isRight_167 (by decide) q8  (fun c => ?_) (fun c => ?_)
      · have h := hT11 c
        refine xr_iconst dX12_isRight_172 ?_
        refine xr_istore' (ll' := [some (xr G 74), some (xi v1), some (xi v2), some (xi v3), some (xi v4), none, some (xi v6), some (xi 0), none, none]) dX12_isRight_173 (by decide) rfl rfl ?_
        refine xr_wk (ll' := [some (xr G 74), some (xi v1), some (xi v2), some (xi v3), some (xi v4), none, none, some (xi 0), none, none]) ⟨rfl, ⟨rfl, ⟨rfl, ⟨rfl, ⟨rfl, ⟨rfl, trivial⟩⟩⟩⟩⟩⟩ ?_
        exact h
      · have h := hF12 c
        refine xr_iconst dX12_isRight_170 ?_
        exact xr_zret dX12_isRight_171 rfl (x_nz (by decide)).1 ⟨rfl, _, rfl, x_01 (by decide), h⟩
    · have h := hF10 c
      refine xr_aload_n dX12_isRight_125 rfl ?_
      refine xr_getR dX12_isRight_126 fl_X12_119 L_74 rfl ?_
      refine xr_bipush dX12_isRight_129 (by decide) ?_
      refine xr_iload dX12_isRight_131 rfl ?_
      refine xr_imul dX12_isRight_133 ?_
      refine xr_iload dX12_isRight_134 rfl ?_
      refine xr_iadd dX12_isRight_136 ?_
      obtain ⟨q13, h⟩ := h
      refine xr_zaload' (v := μ 108 ((120 * v4) + v7)) dX12_isRight_137 L_108 rfl (by decide) q13 rfl ?_
      obtain ⟨q14, hT15, hF16⟩ := h
      refine xr_if_eq (tgt := 156) dX12_isRight_138 (by decide) q14  (fun c => ?_) (fun c => ?_)
      · have h := hT15 c
        refine xr_iconst dX12_isRight_156 ?_
        refine xr_istore' (ll' := [some (xr G 74), some (xi v1), some (xi v2), some (xi v3), some (xi v4), none, some (xi 0), some (xi v7), none, none]) dX12_isRight_157 (by decide) rfl rfl ?_
        refine xr_iinc' (ll' := [some (xr G 74), some (xi v1), some (xi v2), some (xi v3), some (xi v4), none, some (xi 0), some (xi (v7 + 1)), none, none]) dX12_isRight_159 rfl (by decide) rfl rfl ?_
        refine xr_goto (tgt := 111) dX12_isRight_162 (by decide) ?_
        exact h
      · have h := hF16 c
        refine xr_aload_n dX12_isRight_141 rfl ?_
        refine xr_iload_n dX12_isRight_142 rfl ?_
        refine xr_iload_n dX12_isRight_143 rfl ?_
        refine xr_iload dX12_isRight_144 rfl ?_
        refine xr_cvI (As := [xi v1, xi v3, xi v7]) dX12_isRight_146 mi_X12_isSent ml_X12_468 se_X12_isSent L_74 rfl rfl rfl (Nat.le_of_ble_eq_true rfl) h (fun r17 m18 hr17 h => ?_)
        obtain ⟨hT19, hF20⟩ := h
        refine xr_if_eq (tgt := 156) dX12_isRight_149 (by decide) hr17  (fun c => ?_) (fun c => ?_)
        · have h := hT19 c
          refine xr_iconst dX12_isRight_156 ?_
          refine xr_istore' (ll' := [some (xr G 74), some (xi v1), some (xi v2), some (xi v3), some (xi v4), none, some (xi 0), some (xi v7), none, none]) dX12_isRight_157 (by decide) rfl rfl ?_
          refine xr_iinc' (ll' := [some (xr G 74), some (xi v1), some (xi v2), some (xi v3), some (xi v4), none, some (xi 0), some (xi (v7 + 1)), none, none]) dX12_isRight_159 rfl (by decide) rfl rfl ?_
          refine xr_goto (tgt := 111) dX12_isRight_162 (by decide) ?_
          exact h
        · have h := hF20 c
          refine xr_iconst dX12_isRight_152 ?_
          refine xr_goto (tgt := 157) dX12_isRight_153 (by decide) ?_
          refine xr_istore' (ll' := [some (xr G 74), some (xi v1), some (xi v2), some (xi v3), some (xi v4), none, some (xi 1), some (xi v7), none, none]) dX12_isRight_157 (by decide) rfl rfl ?_
          refine xr_iinc' (ll' := [some (xr G 74), some (xi v1), some (xi v2), some (xi v3), some (xi v4), none, some (xi 1), some (xi (v7 + 1)), none, none]) dX12_isRight_159 rfl (by decide) rfl rfl ?_
          refine xr_goto (tgt := 111) dX12_isRight_162 (by decide) ?_
          exact h
set_option maxRecDepth 20000 in
theorem B_X12_isRight_175 {G : xG} {l : Launch} {d : Nat} {P : Int → xMem → Prop} {v1 v2 v3 v4 v7 : Int} {μ : xMem} (h : ((0 ≤ v4 ∧ v4 < 16) ∧ (iR v7 ∧ iR (μ 89 v4) ∧ ((μ 89 v4) ≤ v7 → K_X12_isRight_56 G l (d + 1) P v1 v2 (v3 + (μ 89 v4)) (v4 + 1) μ) ∧ (v7 < (μ 89 v4) → CI G l d mX12_cellOf [xr G 74, xi v4, xi v7] μ (fun r6 m7 => ((0 ≤ ((160 * v1) + v3) + v7 ∧ ((160 * v1) + v3) + v7 < 4800) ∧ ((0 ≤ r6 ∧ r6 < 81) ∧ (iR (m7 129 r6) ∧ ((m7 129 r6) ≤ 0 → K_X12_isRight_175 G l (d + 1) P v1 v2 v3 v4 (v7 + 1) (st2 m7 129 r6 (m7 126 (((160 * v1) + v3) + v7)))) ∧ (0 < (m7 129 r6) → (iR (m7 126 (((160 * v1) + v3) + v7)) ∧ ((m7 129 r6) = (m7 126 (((160 * v1) + v3) + v7)) → K_X12_isRight_175 G l (d + 1) P v1 v2 v3 v4 (v7 + 1) (st2 m7 129 r6 (m7 126 (((160 * v1) + v3) + v7)))) ∧ ((m7 129 r6) ≠ (m7 126 (((160 * v1) + v3) + v7)) → P 0 m7))))))))))) : K_X12_isRight_175 G l (d + 1) P v1 v2 v3 v4 v7 μ := by
  unfold K_X12_isRight_175
  refine xr_iload dX12_isRight_175 rfl ?_
  refine xr_aload_n dX12_isRight_177 rfl ?_
  refine xr_getR dX12_isRight_178 fl_X12_53 L_74 rfl ?_
  refine xr_iload dX12_isRight_181 rfl ?_
  obtain ⟨q1, h⟩ := h
  refine xr_iaload' (v := μ 89 v4) dX12_isRight_183 L_89 rfl (by decide) q1 rfl ?_
  obtain ⟨q2, q3, hT4, hF5⟩ := h
  refine xr_icmp_ge (tgt := 253) dX12_isRight_184 (by decide) q2 q3 (fun c => ?_) (fun c => ?_)
  · have h := hT4 c
    refine xr_iload_n dX12_isRight_253 rfl ?_
    refine xr_aload_n dX12_isRight_254 rfl ?_
    refine xr_getR dX12_isRight_255 fl_X12_53 L_74 rfl ?_
    refine xr_iload dX12_isRight_258 rfl ?_
    refine xr_iaload' (v := μ 89 v4) dX12_isRight_260 L_89 rfl (by decide) q1 rfl ?_
    refine xr_iadd dX12_isRight_261 ?_
    refine xr_istore_n' (ll' := [some (xr G 74), some (xi v1), some (xi v2), some (xi (v3 + (μ 89 v4))), some (xi v4), none, none, some (xi v7), none, none]) dX12_isRight_262 (by decide) rfl rfl ?_
    refine xr_iinc' (ll' := [some (xr G 74), some (xi v1), some (xi v2), some (xi (v3 + (μ 89 v4))), some (xi (v4 + 1)), none, none, some (xi v7), none, none]) dX12_isRight_263 rfl (by decide) rfl rfl ?_
    refine xr_goto (tgt := 56) dX12_isRight_266 (by decide) ?_
    refine xr_wk (ll' := [some (xr G 74), some (xi v1), some (xi v2), some (xi (v3 + (μ 89 v4))), some (xi (v4 + 1)), none, none, none, none, none]) ⟨rfl, ⟨rfl, ⟨rfl, ⟨rfl, ⟨rfl, trivial⟩⟩⟩⟩⟩ ?_
    exact h
  · have h := hF5 (Int.not_le.mp c)
    refine xr_aload_n dX12_isRight_187 rfl ?_
    refine xr_iload dX12_isRight_188 rfl ?_
    refine xr_iload dX12_isRight_190 rfl ?_
    refine xr_cvI (As := [xi v4, xi v7]) dX12_isRight_192 mi_X12_cellOf ml_X12_391 se_X12_cellOf L_74 rfl rfl rfl (Nat.le_of_ble_eq_true rfl) h (fun r6 m7 hr6 h => ?_)
    refine xr_istore' (ll' := [some (xr G 74), some (xi v1), some (xi v2), some (xi v3), some (xi v4), none, none, some (xi v7), some (xi r6), none]) dX12_isRight_195 (by decide) rfl rfl ?_
    refine xr_aload_n dX12_isRight_197 rfl ?_
    refine xr_getR dX12_isRight_198 fl_X12_173 L_74 rfl ?_
    refine xr_sipush dX12_isRight_201 (by decide) ?_
    refine xr_iload_n dX12_isRight_204 rfl ?_
    refine xr_imul dX12_isRight_205 ?_
    refine xr_iload_n dX12_isRight_206 rfl ?_
    refine xr_iadd dX12_isRight_207 ?_
    refine xr_iload dX12_isRight_208 rfl ?_
    refine xr_iadd dX12_isRight_210 ?_
    obtain ⟨q8, h⟩ := h
    refine xr_baload' (v := m7 126 (((160 * v1) + v3) + v7)) dX12_isRight_211 L_126 rfl (by decide) q8 rfl ?_
    refine xr_istore' (ll' := [some (xr G 74), some (xi v1), some (xi v2), some (xi v3), some (xi v4), none, none, some (xi v7), some (xi r6), some (xi (m7 126 (((160 * v1) + v3) + v7)))]) dX12_isRight_212 (by decide) rfl rfl ?_
    refine xr_aload_n dX12_isRight_214 rfl ?_
    refine xr_getR dX12_isRight_215 fl_X12_182 L_74 rfl ?_
    refine xr_iload dX12_isRight_218 rfl ?_
    obtain ⟨q9, h⟩ := h
    refine xr_iaload' (v := m7 129 r6) dX12_isRight_220 L_129 rfl (by decide) q9 rfl ?_
    obtain ⟨q10, hT11, hF12⟩ := h
    refine xr_if_le (tgt := 238) dX12_isRight_221 (by decide) q10  (fun c => ?_) (fun c => ?_)
    · have h := hT11 c
      refine xr_aload_n dX12_isRight_238 rfl ?_
      refine xr_getR dX12_isRight_239 fl_X12_182 L_74 rfl ?_
      refine xr_iload dX12_isRight_242 rfl ?_
      refine xr_iload dX12_isRight_244 rfl ?_
      refine xr_iastore dX12_isRight_246 L_129 rfl (by decide) q9 ?_
      refine xr_iinc' (ll' := [some (xr G 74), some (xi v1), some (xi v2), some (xi v3), some (xi v4), none, none, some (xi (v7 + 1)), some (xi r6), some (xi (m7 126 (((160 * v1) + v3) + v7)))]) dX12_isRight_247 rfl (by decide) rfl rfl ?_
      refine xr_goto (tgt := 175) dX12_isRight_250 (by decide) ?_
      refine xr_wk (ll' := [some (xr G 74), some (xi v1), some (xi v2), some (xi v3), some (xi v4), none, none, some (xi (v7 + 1)), none, none]) ⟨rfl, ⟨rfl, ⟨rfl, ⟨rfl, ⟨rfl, ⟨rfl, trivial⟩⟩⟩⟩⟩⟩ ?_
      exact h
    · have h := hF12 (Int.not_le.mp c)
      refine xr_aload_n dX12_isRight_224 rfl ?_
      refine xr_getR dX12_isRight_225 fl_X12_182 L_74 rfl ?_
      refine xr_iload dX12_isRight_228 rfl ?_
      refine xr_iaload' (v := m7 129 r6) dX12_isRight_230 L_129 rfl (by decide) q9 rfl ?_
      refine xr_iload dX12_isRight_231 rfl ?_
      obtain ⟨q13, hT14, hF15⟩ := h
      refine xr_icmp_eq (tgt := 238) dX12_isRight_233 (by decide) q10 q13 (fun c => ?_) (fun c => ?_)
      · have h := hT14 c
        refine xr_aload_n dX12_isRight_238 rfl ?_
        refine xr_getR dX12_isRight_239 fl_X12_182 L_74 rfl ?_
        refine xr_iload dX12_isRight_242 rfl ?_
        refine xr_iload dX12_isRight_244 rfl ?_
        refine xr_iastore dX12_isRight_246 L_129 rfl (by decide) q9 ?_
        refine xr_iinc' (ll' := [some (xr G 74), some (xi v1), some (xi v2), some (xi v3), some (xi v4), none, none, some (xi (v7 + 1)), some (xi r6), some (xi (m7 126 (((160 * v1) + v3) + v7)))]) dX12_isRight_247 rfl (by decide) rfl rfl ?_
        refine xr_goto (tgt := 175) dX12_isRight_250 (by decide) ?_
        refine xr_wk (ll' := [some (xr G 74), some (xi v1), some (xi v2), some (xi v3), some (xi v4), none, none, some (xi (v7 + 1)), none, none]) ⟨rfl, ⟨rfl, ⟨rfl, ⟨rfl, ⟨rfl, ⟨rfl, trivial⟩⟩⟩⟩⟩⟩ ?_
        exact h
      · have h := hF15 c
        refine xr_iconst dX12_isRight_236 ?_
        exact xr_zret dX12_isRight_237 rfl (x_nz (by decide)).1 ⟨rfl, _, rfl, x_01 (by decide), h⟩
theorem dX12_right_0 : decode cX12_right 0 = .ok (.aload_n 0, 1) := by decide +kernel
theorem dX12_right_1 : decode cX12_right 1 = .ok (.iconst 0, 1) := by decide +kernel
theorem dX12_right_2 : decode cX12_right 2 = .ok (.putfield 185, 3) := by decide +kernel
theorem dX12_right_5 : decode cX12_right 5 = .ok (.iload_n 1, 1) := by decide +kernel
theorem dX12_right_6 : decode cX12_right 6 = .ok (.iconst 0, 1) := by decide +kernel
theorem dX12_right_7 : decode cX12_right 7 = .ok (.aload_n 0, 1) := by decide +kernel
theorem dX12_right_8 : decode cX12_right 8 = .ok (.getfield 461, 3) := by decide +kernel
theorem dX12_right_11 : decode cX12_right 11 = .ok (.iconst 1, 1) := by decide +kernel
theorem dX12_right_12 : decode cX12_right 12 = .ok (.isub, 1) := by decide +kernel
theorem dX12_right_13 : decode cX12_right 13 = .ok (.invokestatic 198, 3) := by decide +kernel
theorem dX12_right_16 : decode cX12_right 16 = .ok (.ifCond .eq 20, 3) := by decide +kernel
theorem dX12_right_19 : decode cX12_right 19 = .ok (.aload_n 0, 1) := by decide +kernel
theorem dX12_right_20 : decode cX12_right 20 = .ok (.iload_n 1, 1) := by decide +kernel
theorem dX12_right_21 : decode cX12_right 21 = .ok (.iload_n 2, 1) := by decide +kernel
theorem dX12_right_22 : decode cX12_right 22 = .ok (.invokevirtual 471, 3) := by decide +kernel
theorem dX12_right_25 : decode cX12_right 25 = .ok (.ifCond .eq 7, 3) := by decide +kernel
theorem dX12_right_28 : decode cX12_right 28 = .ok (.iconst 1, 1) := by decide +kernel
theorem dX12_right_29 : decode cX12_right 29 = .ok (.goto 8, 3) := by decide +kernel
theorem dX12_right_32 : decode cX12_right 32 = .ok (.iconst 0, 1) := by decide +kernel
theorem dX12_right_33 : decode cX12_right 33 = .ok (.goto 4, 3) := by decide +kernel
theorem dX12_right_36 : decode cX12_right 36 = .ok (.iconst (-1), 1) := by decide +kernel
theorem dX12_right_37 : decode cX12_right 37 = .ok (.ireturn, 1) := by decide +kernel
set_option maxRecDepth 20000 in
theorem E_X12_right {G : xG} {l : Launch} {d : Nat} {P : Int → xMem → Prop} {v1 v2 : Int} {μ : xMem} (h : CI G l d mX12_isIn [xi v1, xi 0, xi ((μ 74 81) - 1)] (st2 μ 74 0 0) (fun r1 m2 => ((r1 = 0 → P (-1) m2) ∧ (r1 ≠ 0 → CI G l d mX12_isRight [xr G 74, xi v1, xi v2] m2 (fun r5 m6 => ((r5 = 0 → P 0 m6) ∧ (r5 ≠ 0 → P 1 m6))))))) : CI G l (d + 1) mX12_right [xr G 74, xi v1, xi v2] μ P := by
  refine CC.ofRR (ll := [some (xr G 74), some (xi v1), some (xi v2)]) (by decide +kernel) (Nat.le_of_ble_eq_true rfl) rfl (fun h => by cases h) ?_
  refine xr_aload_n dX12_right_0 rfl ?_
  refine xr_iconst dX12_right_1 ?_
  refine xr_putI dX12_right_2 fp_X12_185 L_74 rfl rfl ⟨rfl, rfl⟩ ?_
  refine xr_iload_n dX12_right_5 rfl ?_
  refine xr_iconst dX12_right_6 ?_
  refine xr_aload_n dX12_right_7 rfl ?_
  refine xr_getI' (v := μ 74 81) dX12_right_8 fl_X12_461 L_74 rfl rfl (by simp [st2, cpy]) ?_
  refine xr_iconst dX12_right_11 ?_
  refine xr_isub dX12_right_12 ?_
  refine xr_csI (As := [xi v1, xi 0, xi ((μ 74 81) - 1)]) dX12_right_13 ms_X12_isIn ml_X12_198 rfl rfl (Nat.le_of_ble_eq_true rfl) h (fun r1 m2 hr1 h => ?_)
  obtain ⟨hT3, hF4⟩ := h
  refine xr_if_eq (tgt := 36) dX12_right_16 (by decide) hr1  (fun c => ?_) (fun c => ?_)
  · have h := hT3 c
    refine xr_iconst dX12_right_36 ?_
    exact xr_iret dX12_right_37 rfl ⟨rfl, _, rfl, (by decide), h⟩
  · have h := hF4 c
    refine xr_aload_n dX12_right_19 rfl ?_
    refine xr_iload_n dX12_right_20 rfl ?_
    refine xr_iload_n dX12_right_21 rfl ?_
    refine xr_cvI (As := [xi v1, xi v2]) dX12_right_22 mi_X12_isRight ml_X12_471 se_X12_isRight L_74 rfl rfl rfl (Nat.le_of_ble_eq_true rfl) h (fun r5 m6 hr5 h => ?_)
    obtain ⟨hT7, hF8⟩ := h
    refine xr_if_eq (tgt := 32) dX12_right_25 (by decide) hr5  (fun c => ?_) (fun c => ?_)
    · have h := hT7 c
      refine xr_iconst dX12_right_32 ?_
      refine xr_goto (tgt := 37) dX12_right_33 (by decide) ?_
      exact xr_iret dX12_right_37 rfl ⟨rfl, _, rfl, (by decide), h⟩
    · have h := hF8 c
      refine xr_iconst dX12_right_28 ?_
      refine xr_goto (tgt := 37) dX12_right_29 (by decide) ?_
      exact xr_iret dX12_right_37 rfl ⟨rfl, _, rfl, (by decide), h⟩
theorem dX12_winner_0 : decode cX12_winner 0 = .ok (.aload_n 0, 1) := by decide +kernel
theorem dX12_winner_1 : decode cX12_winner 1 = .ok (.iconst 0, 1) := by decide +kernel
theorem dX12_winner_2 : decode cX12_winner 2 = .ok (.putfield 185, 3) := by decide +kernel
theorem dX12_winner_5 : decode cX12_winner 5 = .ok (.iconst 0, 1) := by decide +kernel
theorem dX12_winner_6 : decode cX12_winner 6 = .ok (.istore_n 2, 1) := by decide +kernel
theorem dX12_winner_7 : decode cX12_winner 7 = .ok (.iload_n 2, 1) := by decide +kernel
theorem dX12_winner_8 : decode cX12_winner 8 = .ok (.aload_n 0, 1) := by decide +kernel
theorem dX12_winner_9 : decode cX12_winner 9 = .ok (.getfield 461, 3) := by decide +kernel
theorem dX12_winner_12 : decode cX12_winner 12 = .ok (.if_icmp .ge 20, 3) := by decide +kernel
theorem dX12_winner_15 : decode cX12_winner 15 = .ok (.aload_n 0, 1) := by decide +kernel
theorem dX12_winner_16 : decode cX12_winner 16 = .ok (.iload_n 2, 1) := by decide +kernel
theorem dX12_winner_17 : decode cX12_winner 17 = .ok (.iload_n 1, 1) := by decide +kernel
theorem dX12_winner_18 : decode cX12_winner 18 = .ok (.invokevirtual 471, 3) := by decide +kernel
theorem dX12_winner_21 : decode cX12_winner 21 = .ok (.ifCond .eq 5, 3) := by decide +kernel
theorem dX12_winner_24 : decode cX12_winner 24 = .ok (.iload_n 2, 1) := by decide +kernel
theorem dX12_winner_25 : decode cX12_winner 25 = .ok (.ireturn, 1) := by decide +kernel
theorem dX12_winner_26 : decode cX12_winner 26 = .ok (.iinc 2 1, 3) := by decide +kernel
theorem dX12_winner_29 : decode cX12_winner 29 = .ok (.goto (-22), 3) := by decide +kernel
theorem dX12_winner_32 : decode cX12_winner 32 = .ok (.iconst (-1), 1) := by decide +kernel
theorem dX12_winner_33 : decode cX12_winner 33 = .ok (.ireturn, 1) := by decide +kernel
def K_X12_winner_7 (G : xG) (l : Launch) (d : Nat) (P : Int → xMem → Prop) (v1 v2 : Int) (μ : xMem) : Prop := RR G l d 0 0 false mX12_winner (qI P) 7 [some (xr G 74), some (xi v1), some (xi v2)] [] LAY μ 0 0
set_option maxRecDepth 20000 in
theorem E_X12_winner {G : xG} {l : Launch} {d : Nat} {P : Int → xMem → Prop} {v1 : Int} {μ : xMem} (h : K_X12_winner_7 G l (d + 1) P v1 0 (st2 μ 74 0 0)) : CI G l (d + 1) mX12_winner [xr G 74, xi v1] μ P := by
  refine CC.ofRR (ll := [some (xr G 74), some (xi v1), none]) (by decide +kernel) (Nat.le_of_ble_eq_true rfl) rfl (fun h => by cases h) ?_
  refine xr_aload_n dX12_winner_0 rfl ?_
  refine xr_iconst dX12_winner_1 ?_
  refine xr_putI dX12_winner_2 fp_X12_185 L_74 rfl rfl ⟨rfl, rfl⟩ ?_
  refine xr_iconst dX12_winner_5 ?_
  refine xr_istore_n' (ll' := [some (xr G 74), some (xi v1), some (xi 0)]) dX12_winner_6 (by decide) rfl rfl ?_
  exact h
set_option maxRecDepth 20000 in
theorem B_X12_winner_7 {G : xG} {l : Launch} {d : Nat} {P : Int → xMem → Prop} {v1 v2 : Int} {μ : xMem} (h : (iR v2 ∧ iR (μ 74 81) ∧ ((μ 74 81) ≤ v2 → P (-1) μ) ∧ (v2 < (μ 74 81) → CI G l d mX12_isRight [xr G 74, xi v2, xi v1] μ (fun r5 m6 => ((r5 = 0 → K_X12_winner_7 G l (d + 1) P v1 (v2 + 1) m6) ∧ (r5 ≠ 0 → P v2 m6)))))) : K_X12_winner_7 G l (d + 1) P v1 v2 μ := by
  unfold K_X12_winner_7
  refine xr_iload_n dX12_winner_7 rfl ?_
  refine xr_aload_n dX12_winner_8 rfl ?_
  refine xr_getI' (v := μ 74 81) dX12_winner_9 fl_X12_461 L_74 rfl rfl rfl ?_
  obtain ⟨q1, q2, hT3, hF4⟩ := h
  refine xr_icmp_ge (tgt := 32) dX12_winner_12 (by decide) q1 q2 (fun c => ?_) (fun c => ?_)
  · have h := hT3 c
    refine xr_iconst dX12_winner_32 ?_
    exact xr_iret dX12_winner_33 rfl ⟨rfl, _, rfl, (by decide), h⟩
  · have h := hF4 (Int.not_le.mp c)
    refine xr_aload_n dX12_winner_15 rfl ?_
    refine xr_iload_n dX12_winner_16 rfl ?_
    refine xr_iload_n dX12_winner_17 rfl ?_
    refine xr_cvI (As := [xi v2, xi v1]) dX12_winner_18 mi_X12_isRight ml_X12_471 se_X12_isRight L_74 rfl rfl rfl (Nat.le_of_ble_eq_true rfl) h (fun r5 m6 hr5 h => ?_)
    obtain ⟨hT7, hF8⟩ := h
    refine xr_if_eq (tgt := 26) dX12_winner_21 (by decide) hr5  (fun c => ?_) (fun c => ?_)
    · have h := hT7 c
      refine xr_iinc' (ll' := [some (xr G 74), some (xi v1), some (xi (v2 + 1))]) dX12_winner_26 rfl (by decide) rfl rfl ?_
      refine xr_goto (tgt := 7) dX12_winner_29 (by decide) ?_
      exact h
    · have h := hF8 c
      refine xr_iload_n dX12_winner_24 rfl ?_
      exact xr_iret dX12_winner_25 rfl ⟨rfl, _, rfl, q1, h⟩
theorem dX12_count_0 : decode cX12_count 0 = .ok (.aload_n 0, 1) := by decide +kernel
theorem dX12_count_1 : decode cX12_count 1 = .ok (.iconst 0, 1) := by decide +kernel
theorem dX12_count_2 : decode cX12_count 2 = .ok (.putfield 185, 3) := by decide +kernel
theorem dX12_count_5 : decode cX12_count 5 = .ok (.iconst 0, 1) := by decide +kernel
theorem dX12_count_6 : decode cX12_count 6 = .ok (.istore_n 2, 1) := by decide +kernel
theorem dX12_count_7 : decode cX12_count 7 = .ok (.iload_n 1, 1) := by decide +kernel
theorem dX12_count_8 : decode cX12_count 8 = .ok (.tableswitch 153 0 8 #[52, 57, 62, 67, 72, 105, 138, 143, 148], 52) := by decide +kernel
theorem dX12_count_60 : decode cX12_count 60 = .ok (.aload_n 0, 1) := by decide +kernel
theorem dX12_count_61 : decode cX12_count 61 = .ok (.getfield 202, 3) := by decide +kernel
theorem dX12_count_64 : decode cX12_count 64 = .ok (.ireturn, 1) := by decide +kernel
theorem dX12_count_65 : decode cX12_count 65 = .ok (.aload_n 0, 1) := by decide +kernel
theorem dX12_count_66 : decode cX12_count 66 = .ok (.getfield 208, 3) := by decide +kernel
theorem dX12_count_69 : decode cX12_count 69 = .ok (.ireturn, 1) := by decide +kernel
theorem dX12_count_70 : decode cX12_count 70 = .ok (.aload_n 0, 1) := by decide +kernel
theorem dX12_count_71 : decode cX12_count 71 = .ok (.getfield 224, 3) := by decide +kernel
theorem dX12_count_74 : decode cX12_count 74 = .ok (.ireturn, 1) := by decide +kernel
theorem dX12_count_75 : decode cX12_count 75 = .ok (.aload_n 0, 1) := by decide +kernel
theorem dX12_count_76 : decode cX12_count 76 = .ok (.getfield 227, 3) := by decide +kernel
theorem dX12_count_79 : decode cX12_count 79 = .ok (.ireturn, 1) := by decide +kernel
theorem dX12_count_80 : decode cX12_count 80 = .ok (.iconst 0, 1) := by decide +kernel
theorem dX12_count_81 : decode cX12_count 81 = .ok (.istore_n 3, 1) := by decide +kernel
theorem dX12_count_82 : decode cX12_count 82 = .ok (.iload_n 3, 1) := by decide +kernel
theorem dX12_count_83 : decode cX12_count 83 = .ok (.bipush 16, 2) := by decide +kernel
theorem dX12_count_85 : decode cX12_count 85 = .ok (.if_icmp .ge 26, 3) := by decide +kernel
theorem dX12_count_88 : decode cX12_count 88 = .ok (.iload_n 2, 1) := by decide +kernel
theorem dX12_count_89 : decode cX12_count 89 = .ok (.aload_n 0, 1) := by decide +kernel
theorem dX12_count_90 : decode cX12_count 90 = .ok (.getfield 53, 3) := by decide +kernel
theorem dX12_count_93 : decode cX12_count 93 = .ok (.iload_n 3, 1) := by decide +kernel
theorem dX12_count_94 : decode cX12_count 94 = .ok (.iaload, 1) := by decide +kernel
theorem dX12_count_95 : decode cX12_count 95 = .ok (.ifCond .le 7, 3) := by decide +kernel
theorem dX12_count_98 : decode cX12_count 98 = .ok (.iconst 1, 1) := by decide +kernel
theorem dX12_count_99 : decode cX12_count 99 = .ok (.goto 4, 3) := by decide +kernel
theorem dX12_count_102 : decode cX12_count 102 = .ok (.iconst 0, 1) := by decide +kernel
theorem dX12_count_103 : decode cX12_count 103 = .ok (.iadd, 1) := by decide +kernel
theorem dX12_count_104 : decode cX12_count 104 = .ok (.istore_n 2, 1) := by decide +kernel
theorem dX12_count_105 : decode cX12_count 105 = .ok (.iinc 3 1, 3) := by decide +kernel
theorem dX12_count_108 : decode cX12_count 108 = .ok (.goto (-26), 3) := by decide +kernel
theorem dX12_count_111 : decode cX12_count 111 = .ok (.iload_n 2, 1) := by decide +kernel
theorem dX12_count_112 : decode cX12_count 112 = .ok (.ireturn, 1) := by decide +kernel
theorem dX12_count_113 : decode cX12_count 113 = .ok (.iconst 0, 1) := by decide +kernel
theorem dX12_count_114 : decode cX12_count 114 = .ok (.istore_n 3, 1) := by decide +kernel
theorem dX12_count_115 : decode cX12_count 115 = .ok (.iload_n 3, 1) := by decide +kernel
theorem dX12_count_116 : decode cX12_count 116 = .ok (.bipush 16, 2) := by decide +kernel
theorem dX12_count_118 : decode cX12_count 118 = .ok (.if_icmp .ge 26, 3) := by decide +kernel
theorem dX12_count_121 : decode cX12_count 121 = .ok (.iload_n 2, 1) := by decide +kernel
theorem dX12_count_122 : decode cX12_count 122 = .ok (.aload_n 0, 1) := by decide +kernel
theorem dX12_count_123 : decode cX12_count 123 = .ok (.getfield 146, 3) := by decide +kernel
theorem dX12_count_126 : decode cX12_count 126 = .ok (.iload_n 3, 1) := by decide +kernel
theorem dX12_count_127 : decode cX12_count 127 = .ok (.baload, 1) := by decide +kernel
theorem dX12_count_128 : decode cX12_count 128 = .ok (.ifCond .eq 7, 3) := by decide +kernel
theorem dX12_count_131 : decode cX12_count 131 = .ok (.iconst 1, 1) := by decide +kernel
theorem dX12_count_132 : decode cX12_count 132 = .ok (.goto 4, 3) := by decide +kernel
theorem dX12_count_135 : decode cX12_count 135 = .ok (.iconst 0, 1) := by decide +kernel
theorem dX12_count_136 : decode cX12_count 136 = .ok (.iadd, 1) := by decide +kernel
theorem dX12_count_137 : decode cX12_count 137 = .ok (.istore_n 2, 1) := by decide +kernel
theorem dX12_count_138 : decode cX12_count 138 = .ok (.iinc 3 1, 3) := by decide +kernel
theorem dX12_count_141 : decode cX12_count 141 = .ok (.goto (-26), 3) := by decide +kernel
theorem dX12_count_144 : decode cX12_count 144 = .ok (.iload_n 2, 1) := by decide +kernel
theorem dX12_count_145 : decode cX12_count 145 = .ok (.ireturn, 1) := by decide +kernel
theorem dX12_count_146 : decode cX12_count 146 = .ok (.aload_n 0, 1) := by decide +kernel
theorem dX12_count_147 : decode cX12_count 147 = .ok (.getfield 461, 3) := by decide +kernel
theorem dX12_count_150 : decode cX12_count 150 = .ok (.ireturn, 1) := by decide +kernel
theorem dX12_count_151 : decode cX12_count 151 = .ok (.aload_n 0, 1) := by decide +kernel
theorem dX12_count_152 : decode cX12_count 152 = .ok (.getfield 188, 3) := by decide +kernel
theorem dX12_count_155 : decode cX12_count 155 = .ok (.ireturn, 1) := by decide +kernel
theorem dX12_count_156 : decode cX12_count 156 = .ok (.aload_n 0, 1) := by decide +kernel
theorem dX12_count_157 : decode cX12_count 157 = .ok (.getfield 381, 3) := by decide +kernel
theorem dX12_count_160 : decode cX12_count 160 = .ok (.ireturn, 1) := by decide +kernel
theorem dX12_count_161 : decode cX12_count 161 = .ok (.iconst (-1), 1) := by decide +kernel
theorem dX12_count_162 : decode cX12_count 162 = .ok (.ireturn, 1) := by decide +kernel
def K_X12_count_82 (G : xG) (l : Launch) (d : Nat) (P : Int → xMem → Prop) (v2 v3 : Int) (μ : xMem) : Prop := RR G l d 0 0 false mX12_count (qI P) 82 [some (xr G 74), none, some (xi v2), some (xi v3)] [] LAY μ 0 0
def K_X12_count_115 (G : xG) (l : Launch) (d : Nat) (P : Int → xMem → Prop) (v2 v3 : Int) (μ : xMem) : Prop := RR G l d 0 0 false mX12_count (qI P) 115 [some (xr G 74), none, some (xi v2), some (xi v3)] [] LAY μ 0 0
set_option maxRecDepth 20000 in
theorem E_X12_count {G : xG} {l : Launch} {d : Nat} {P : Int → xMem → Prop} {v1 : Int} {μ : xMem} (h : (iR v1 ∧ (v1 = 0 → (iR (μ 74 4) ∧ P (μ 74 4) (st2 μ 74 0 0))) ∧ (v1 = 1 → (iR (μ 74 20) ∧ P (μ 74 20) (st2 μ 74 0 0))) ∧ (v1 = 2 → (iR (μ 74 21) ∧ P (μ 74 21) (st2 μ 74 0 0))) ∧ (v1 = 3 → (iR (μ 74 22) ∧ P (μ 74 22) (st2 μ 74 0 0))) ∧ (v1 = 4 → K_X12_count_82 G l (d + 1) P 0 0 (st2 μ 74 0 0)) ∧ (v1 = 5 → K_X12_count_115 G l (d + 1) P 0 0 (st2 μ 74 0 0)) ∧ (v1 = 6 → (iR (μ 74 81) ∧ P (μ 74 81) (st2 μ 74 0 0))) ∧ (v1 = 7 → (iR (μ 74 2) ∧ P (μ 74 2) (st2 μ 74 0 0))) ∧ (v1 = 8 → (iR (μ 74 54) ∧ P (μ 74 54) (st2 μ 74 0 0))) ∧ (v1 < 0 ∨ 8 < v1 → P (-1) (st2 μ 74 0 0)))) : CI G l (d + 1) mX12_count [xr G 74, xi v1] μ P := by
  refine CC.ofRR (ll := [some (xr G 74), some (xi v1), none, none]) (by decide +kernel) (Nat.le_of_ble_eq_true rfl) rfl (fun h => by cases h) ?_
  refine xr_aload_n dX12_count_0 rfl ?_
  refine xr_iconst dX12_count_1 ?_
  refine xr_putI dX12_count_2 fp_X12_185 L_74 rfl rfl ⟨rfl, rfl⟩ ?_
  refine xr_iconst dX12_count_5 ?_
  refine xr_istore_n' (ll' := [some (xr G 74), some (xi v1), some (xi 0), none]) dX12_count_6 (by decide) rfl rfl ?_
  refine xr_iload_n dX12_count_7 rfl ?_
  obtain ⟨q1, hC3, hC5, hC7, hC9, hC10, hC11, hC13, hC15, hC17, hD18⟩ := h
  by_cases c0 : v1 = 0
  · have h := hC3 c0
    refine xr_tabIn (tgt := 60) dX12_count_8 q1 (by omega) (by omega) (by rw [c0]; rfl) (by decide) ?_
    refine xr_aload_n dX12_count_60 rfl ?_
    refine xr_getI' (v := μ 74 4) dX12_count_61 fl_X12_202 L_74 rfl rfl (by simp [st2, cpy]) ?_
    obtain ⟨q2, h⟩ := h
    exact xr_iret dX12_count_64 rfl ⟨rfl, _, rfl, q2, h⟩
  by_cases c1 : v1 = 1
  · have h := hC5 c1
    refine xr_tabIn (tgt := 65) dX12_count_8 q1 (by omega) (by omega) (by rw [c1]; rfl) (by decide) ?_
    refine xr_aload_n dX12_count_65 rfl ?_
    refine xr_getI' (v := μ 74 20) dX12_count_66 fl_X12_208 L_74 rfl rfl (by simp [st2, cpy]) ?_
    obtain ⟨q4, h⟩ := h
    exact xr_iret dX12_count_69 rfl ⟨rfl, _, rfl, q4, h⟩
  by_cases c2 : v1 = 2
  · have h := hC7 c2
    refine xr_tabIn (tgt := 70) dX12_count_8 q1 (by omega) (by omega) (by rw [c2]; rfl) (by decide) ?_
    refine xr_aload_n dX12_count_70 rfl ?_
    refine xr_getI' (v := μ 74 21) dX12_count_71 fl_X12_224 L_74 rfl rfl (by simp [st2, cpy]) ?_
    obtain ⟨q6, h⟩ := h
    exact xr_iret dX12_count_74 rfl ⟨rfl, _, rfl, q6, h⟩
  by_cases c3 : v1 = 3
  · have h := hC9 c3
    refine xr_tabIn (tgt := 75) dX12_count_8 q1 (by omega) (by omega) (by rw [c3]; rfl) (by decide) ?_
    refine xr_aload_n dX12_count_75 rfl ?_
    refine xr_getI' (v := μ 74 22) dX12_count_76 fl_X12_227 L_74 rfl rfl (by simp [st2, cpy]) ?_
    obtain ⟨q8, h⟩ := h
    exact xr_iret dX12_count_79 rfl ⟨rfl, _, rfl, q8, h⟩
  by_cases c4 : v1 = 4
  · have h := hC10 c4
    refine xr_tabIn (tgt := 80) dX12_count_8 q1 (by omega) (by omega) (by rw [c4]; rfl) (by decide) ?_
    refine xr_iconst dX12_count_80 ?_
    refine xr_istore_n' (ll' := [some (xr G 74), some (xi v1), some (xi 0), some (xi 0)]) dX12_count_81 (by decide) rfl rfl ?_
    refine xr_wk (ll' := [some (xr G 74), none, some (xi 0), some (xi 0)]) ⟨rfl, ⟨rfl, ⟨rfl, trivial⟩⟩⟩ ?_
    exact h
  by_cases c5 : v1 = 5
  · have h := hC11 c5
    refine xr_tabIn (tgt := 113) dX12_count_8 q1 (by omega) (by omega) (by rw [c5]; rfl) (by decide) ?_
    refine xr_iconst dX12_count_113 ?_
    refine xr_istore_n' (ll' := [some (xr G 74), some (xi v1), some (xi 0), some (xi 0)]) dX12_count_114 (by decide) rfl rfl ?_
    refine xr_wk (ll' := [some (xr G 74), none, some (xi 0), some (xi 0)]) ⟨rfl, ⟨rfl, ⟨rfl, trivial⟩⟩⟩ ?_
    exact h
  by_cases c6 : v1 = 6
  · have h := hC13 c6
    refine xr_tabIn (tgt := 146) dX12_count_8 q1 (by omega) (by omega) (by rw [c6]; rfl) (by decide) ?_
    refine xr_aload_n dX12_count_146 rfl ?_
    refine xr_getI' (v := μ 74 81) dX12_count_147 fl_X12_461 L_74 rfl rfl (by simp [st2, cpy]) ?_
    obtain ⟨q12, h⟩ := h
    exact xr_iret dX12_count_150 rfl ⟨rfl, _, rfl, q12, h⟩
  by_cases c7 : v1 = 7
  · have h := hC15 c7
    refine xr_tabIn (tgt := 151) dX12_count_8 q1 (by omega) (by omega) (by rw [c7]; rfl) (by decide) ?_
    refine xr_aload_n dX12_count_151 rfl ?_
    refine xr_getI' (v := μ 74 2) dX12_count_152 fl_X12_188 L_74 rfl rfl (by simp [st2, cpy]) ?_
    obtain ⟨q14, h⟩ := h
    exact xr_iret dX12_count_155 rfl ⟨rfl, _, rfl, q14, h⟩
  by_cases c8 : v1 = 8
  · have h := hC17 c8
    refine xr_tabIn (tgt := 156) dX12_count_8 q1 (by omega) (by omega) (by rw [c8]; rfl) (by decide) ?_
    refine xr_aload_n dX12_count_156 rfl ?_
    refine xr_getI' (v := μ 74 54) dX12_count_157 fl_X12_381 L_74 rfl rfl (by simp [st2, cpy]) ?_
    obtain ⟨q16, h⟩ := h
    exact xr_iret dX12_count_160 rfl ⟨rfl, _, rfl, q16, h⟩
  have h := hD18 (by omega)
  refine xr_tabOut (tgt := 161) dX12_count_8 q1 (by omega) (by decide) ?_
  refine xr_iconst dX12_count_161 ?_
  exact xr_iret dX12_count_162 rfl ⟨rfl, _, rfl, (by decide), h⟩
set_option maxRecDepth 20000 in
theorem B_X12_count_82 {G : xG} {l : Launch} {d : Nat} {P : Int → xMem → Prop} {v2 v3 : Int} {μ : xMem} (h : (iR v3 ∧ (16 ≤ v3 → (iR v2 ∧ P v2 μ)) ∧ (v3 < 16 → ((0 ≤ v3 ∧ v3 < 16) ∧ (iR (μ 89 v3) ∧ ((μ 89 v3) ≤ 0 → K_X12_count_82 G l (d + 1) P (v2 + 0) (v3 + 1) μ) ∧ (0 < (μ 89 v3) → K_X12_count_82 G l (d + 1) P (v2 + 1) (v3 + 1) μ)))))) : K_X12_count_82 G l (d + 1) P v2 v3 μ := by
  unfold K_X12_count_82
  refine xr_iload_n dX12_count_82 rfl ?_
  refine xr_bipush dX12_count_83 (by decide) ?_
  obtain ⟨q1, hT2, hF3⟩ := h
  refine xr_icmp_ge (tgt := 111) dX12_count_85 (by decide) q1 (by decide) (fun c => ?_) (fun c => ?_)
  · have h := hT2 c
    refine xr_iload_n dX12_count_111 rfl ?_
    obtain ⟨q4, h⟩ := h
    exact xr_iret dX12_count_112 rfl ⟨rfl, _, rfl, q4, h⟩
  · have h := hF3 (Int.not_le.mp c)
    refine xr_iload_n dX12_count_88 rfl ?_
    refine xr_aload_n dX12_count_89 rfl ?_
    refine xr_getR dX12_count_90 fl_X12_53 L_74 rfl ?_
    refine xr_iload_n dX12_count_93 rfl ?_
    obtain ⟨q5, h⟩ := h
    refine xr_iaload' (v := μ 89 v3) dX12_count_94 L_89 rfl (by decide) q5 rfl ?_
    obtain ⟨q6, hT7, hF8⟩ := h
    refine xr_if_le (tgt := 102) dX12_count_95 (by decide) q6  (fun c => ?_) (fun c => ?_)
    · have h := hT7 c
      refine xr_iconst dX12_count_102 ?_
      refine xr_iadd dX12_count_103 ?_
      refine xr_istore_n' (ll' := [some (xr G 74), none, some (xi (v2 + 0)), some (xi v3)]) dX12_count_104 (by decide) rfl rfl ?_
      refine xr_iinc' (ll' := [some (xr G 74), none, some (xi (v2 + 0)), some (xi (v3 + 1))]) dX12_count_105 rfl (by decide) rfl rfl ?_
      refine xr_goto (tgt := 82) dX12_count_108 (by decide) ?_
      exact h
    · have h := hF8 (Int.not_le.mp c)
      refine xr_iconst dX12_count_98 ?_
      refine xr_goto (tgt := 103) dX12_count_99 (by decide) ?_
      refine xr_iadd dX12_count_103 ?_
      refine xr_istore_n' (ll' := [some (xr G 74), none, some (xi (v2 + 1)), some (xi v3)]) dX12_count_104 (by decide) rfl rfl ?_
      refine xr_iinc' (ll' := [some (xr G 74), none, some (xi (v2 + 1)), some (xi (v3 + 1))]) dX12_count_105 rfl (by decide) rfl rfl ?_
      refine xr_goto (tgt := 82) dX12_count_108 (by decide) ?_
      exact h
set_option maxRecDepth 20000 in
theorem B_X12_count_115 {G : xG} {l : Launch} {d : Nat} {P : Int → xMem → Prop} {v2 v3 : Int} {μ : xMem} (h : (iR v3 ∧ (16 ≤ v3 → (iR v2 ∧ P v2 μ)) ∧ (v3 < 16 → ((0 ≤ v3 ∧ v3 < 16) ∧ (iR (μ 117 v3) ∧ ((μ 117 v3) = 0 → K_X12_count_115 G l (d + 1) P (v2 + 0) (v3 + 1) μ) ∧ ((μ 117 v3) ≠ 0 → K_X12_count_115 G l (d + 1) P (v2 + 1) (v3 + 1) μ)))))) : K_X12_count_115 G l (d + 1) P v2 v3 μ := by
  unfold K_X12_count_115
  refine xr_iload_n dX12_count_115 rfl ?_
  refine xr_bipush dX12_count_116 (by decide) ?_
  obtain ⟨q1, hT2, hF3⟩ := h
  refine xr_icmp_ge (tgt := 144) dX12_count_118 (by decide) q1 (by decide) (fun c => ?_) (fun c => ?_)
  · have h := hT2 c
    refine xr_iload_n dX12_count_144 rfl ?_
    obtain ⟨q4, h⟩ := h
    exact xr_iret dX12_count_145 rfl ⟨rfl, _, rfl, q4, h⟩
  · have h := hF3 (Int.not_le.mp c)
    refine xr_iload_n dX12_count_121 rfl ?_
    refine xr_aload_n dX12_count_122 rfl ?_
    refine xr_getR dX12_count_123 fl_X12_146 L_74 rfl ?_
    refine xr_iload_n dX12_count_126 rfl ?_
    obtain ⟨q5, h⟩ := h
    refine xr_zaload' (v := μ 117 v3) dX12_count_127 L_117 rfl (by decide) q5 rfl ?_
    obtain ⟨q6, hT7, hF8⟩ := h
    refine xr_if_eq (tgt := 135) dX12_count_128 (by decide) q6  (fun c => ?_) (fun c => ?_)
    · have h := hT7 c
      refine xr_iconst dX12_count_135 ?_
      refine xr_iadd dX12_count_136 ?_
      refine xr_istore_n' (ll' := [some (xr G 74), none, some (xi (v2 + 0)), some (xi v3)]) dX12_count_137 (by decide) rfl rfl ?_
      refine xr_iinc' (ll' := [some (xr G 74), none, some (xi (v2 + 0)), some (xi (v3 + 1))]) dX12_count_138 rfl (by decide) rfl rfl ?_
      refine xr_goto (tgt := 115) dX12_count_141 (by decide) ?_
      exact h
    · have h := hF8 c
      refine xr_iconst dX12_count_131 ?_
      refine xr_goto (tgt := 136) dX12_count_132 (by decide) ?_
      refine xr_iadd dX12_count_136 ?_
      refine xr_istore_n' (ll' := [some (xr G 74), none, some (xi (v2 + 1)), some (xi v3)]) dX12_count_137 (by decide) rfl rfl ?_
      refine xr_iinc' (ll' := [some (xr G 74), none, some (xi (v2 + 1)), some (xi (v3 + 1))]) dX12_count_138 rfl (by decide) rfl rfl ?_
      refine xr_goto (tgt := 115) dX12_count_141 (by decide) ?_
      exact h
end Blk34_bX12e
