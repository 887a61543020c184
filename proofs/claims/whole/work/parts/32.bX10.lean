/-! blocks of the class's code, printed by program -/
section Blk32_bX10
theorem dX10_settle_0 : decode cX10_settle 0 = .ok (.iconst 0, 1) := by decide +kernel
theorem dX10_settle_1 : decode cX10_settle 1 = .ok (.istore_n 1, 1) := by decide +kernel
theorem dX10_settle_2 : decode cX10_settle 2 = .ok (.iload_n 1, 1) := by decide +kernel
theorem dX10_settle_3 : decode cX10_settle 3 = .ok (.bipush 16, 2) := by decide +kernel
theorem dX10_settle_5 : decode cX10_settle 5 = .ok (.if_icmp .ge 14, 3) := by decide +kernel
theorem dX10_settle_8 : decode cX10_settle 8 = .ok (.aload_n 0, 1) := by decide +kernel
theorem dX10_settle_9 : decode cX10_settle 9 = .ok (.iload_n 1, 1) := by decide +kernel
theorem dX10_settle_10 : decode cX10_settle 10 = .ok (.invokevirtual 45, 3) := by decide +kernel
theorem dX10_settle_13 : decode cX10_settle 13 = .ok (.iinc 1 1, 3) := by decide +kernel
theorem dX10_settle_16 : decode cX10_settle 16 = .ok (.goto (-14), 3) := by decide +kernel
theorem dX10_settle_19 : decode cX10_settle 19 = .ok (.iconst 1, 1) := by decide +kernel
theorem dX10_settle_20 : decode cX10_settle 20 = .ok (.istore_n 1, 1) := by decide +kernel
theorem dX10_settle_21 : decode cX10_settle 21 = .ok (.iconst 0, 1) := by decide +kernel
theorem dX10_settle_22 : decode cX10_settle 22 = .ok (.istore_n 2, 1) := by decide +kernel
theorem dX10_settle_23 : decode cX10_settle 23 = .ok (.iload_n 1, 1) := by decide +kernel
theorem dX10_settle_24 : decode cX10_settle 24 = .ok (.ifCond .eq 40, 3) := by decide +kernel
theorem dX10_settle_27 : decode cX10_settle 27 = .ok (.iload_n 2, 1) := by decide +kernel
theorem dX10_settle_28 : decode cX10_settle 28 = .ok (.sipush 1920, 3) := by decide +kernel
theorem dX10_settle_31 : decode cX10_settle 31 = .ok (.if_icmp .gt 33, 3) := by decide +kernel
theorem dX10_settle_34 : decode cX10_settle 34 = .ok (.iconst 0, 1) := by decide +kernel
theorem dX10_settle_35 : decode cX10_settle 35 = .ok (.istore_n 1, 1) := by decide +kernel
theorem dX10_settle_36 : decode cX10_settle 36 = .ok (.iconst 0, 1) := by decide +kernel
theorem dX10_settle_37 : decode cX10_settle 37 = .ok (.istore_n 3, 1) := by decide +kernel
theorem dX10_settle_38 : decode cX10_settle 38 = .ok (.iload_n 3, 1) := by decide +kernel
theorem dX10_settle_39 : decode cX10_settle 39 = .ok (.bipush 16, 2) := by decide +kernel
theorem dX10_settle_41 : decode cX10_settle 41 = .ok (.if_icmp .ge 17, 3) := by decide +kernel
theorem dX10_settle_44 : decode cX10_settle 44 = .ok (.iload_n 1, 1) := by decide +kernel
theorem dX10_settle_45 : decode cX10_settle 45 = .ok (.aload_n 0, 1) := by decide +kernel
theorem dX10_settle_46 : decode cX10_settle 46 = .ok (.iload_n 3, 1) := by decide +kernel
theorem dX10_settle_47 : decode cX10_settle 47 = .ok (.invokevirtual 49, 3) := by decide +kernel
theorem dX10_settle_50 : decode cX10_settle 50 = .ok (.ior, 1) := by decide +kernel
theorem dX10_settle_51 : decode cX10_settle 51 = .ok (.istore_n 1, 1) := by decide +kernel
theorem dX10_settle_52 : decode cX10_settle 52 = .ok (.iinc 3 1, 3) := by decide +kernel
theorem dX10_settle_55 : decode cX10_settle 55 = .ok (.goto (-17), 3) := by decide +kernel
theorem dX10_settle_58 : decode cX10_settle 58 = .ok (.iinc 2 1, 3) := by decide +kernel
theorem dX10_settle_61 : decode cX10_settle 61 = .ok (.goto (-38), 3) := by decide +kernel
theorem dX10_settle_64 : decode cX10_settle 64 = .ok (.return_, 1) := by decide +kernel
def K_X10_settle_2 (G : xG) (l : Launch) (d : Nat) (P : xMem → Prop) (v1 : Int) (μ : xMem) : Prop := RR G l d 0 0 false mX10_settle (qV P) 2 [some (xr G 58), some (xi v1), none, none] [] LAY μ 0 0
def K_X10_settle_23 (G : xG) (l : Launch) (d : Nat) (P : xMem → Prop) (v1 v2 : Int) (μ : xMem) : Prop := RR G l d 0 0 false mX10_settle (qV P) 23 [some (xr G 58), some (xi v1), some (xi v2), none] [] LAY μ 0 0
def K_X10_settle_38 (G : xG) (l : Launch) (d : Nat) (P : xMem → Prop) (v1 v2 v3 : Int) (μ : xMem) : Prop := RR G l d 0 0 false mX10_settle (qV P) 38 [some (xr G 58), some (xi v1), some (xi v2), some (xi v3)] [] LAY μ 0 0
set_option maxRecDepth 20000 in
theorem E_X10_settle {G : xG} {l : Launch} {d : Nat} {P : xMem → Prop} {μ : xMem} (h : K_X10_settle_2 G l (d + 1) P 0 μ) : CV G l (d + 1) mX10_settle [xr G 58] μ P := by
  refine CC.ofRR (ll := [some (xr G 58), none, none, none]) (by decide +kernel) (Nat.le_of_ble_eq_true rfl) rfl (fun h => by cases h) ?_
  refine xr_iconst dX10_settle_0 ?_
  refine xr_istore_n' (ll' := [some (xr G 58), some (xi 0), none, none]) dX10_settle_1 (by decide) rfl rfl ?_
  exact h
set_option maxRecDepth 20000 in
theorem B_X10_settle_2 {G : xG} {l : Launch} {d : Nat} {P : xMem → Prop} {v1 : Int} {μ : xMem} (h : (iR v1 ∧ (16 ≤ v1 → K_X10_settle_23 G l (d + 1) P 1 0 μ) ∧ (v1 < 16 → CV G l d mX10_takePossible [xr G 58, xi v1] μ (fun m5 => K_X10_settle_2 G l (d + 1) P (v1 + 1) m5)))) : K_X10_settle_2 G l (d + 1) P v1 μ := by
  unfold K_X10_settle_2
  refine xr_iload_n dX10_settle_2 rfl ?_
  refine xr_bipush dX10_settle_3 (by decide) ?_
  obtain ⟨q1, hT2, hF3⟩ := h
  refine xr_icmp_ge (tgt := 19) dX10_settle_5 (by decide) q1 (by decide) (fun c => ?_) (fun c => ?_)
  · have h := hT2 c
    refine xr_iconst dX10_settle_19 ?_
    refine xr_istore_n' (ll' := [some (xr G 58), some (xi 1), none, none]) dX10_settle_20 (by decide) rfl rfl ?_
    refine xr_iconst dX10_settle_21 ?_
    refine xr_istore_n' (ll' := [some (xr G 58), some (xi 1), some (xi 0), none]) dX10_settle_22 (by decide) rfl rfl ?_
    exact h
  · have h := hF3 (Int.not_le.mp c)
    refine xr_aload_n dX10_settle_8 rfl ?_
    refine xr_iload_n dX10_settle_9 rfl ?_
    refine xr_cvV (As := [xi v1]) dX10_settle_10 mi_X10_takePossible ml_X10_45 se_X10_takePossible L_58 rfl rfl rfl (Nat.le_of_ble_eq_true rfl) h (fun m5 h => ?_)
    refine xr_iinc' (ll' := [some (xr G 58), some (xi (v1 + 1)), none, none]) dX10_settle_13 rfl (by decide) rfl rfl ?_
    refine xr_goto (tgt := 2) dX10_settle_16 (by decide) ?_
    exact h
set_option maxRecDepth 20000 in
theorem B_X10_settle_23 {G : xG} {l : Launch} {d : Nat} {P : xMem → Prop} {v1 v2 : Int} {μ : xMem} (h : (iR v1 ∧ (v1 = 0 → P μ) ∧ (v1 ≠ 0 → (iR v2 ∧ (1920 < v2 → P μ) ∧ (v2 ≤ 1920 → K_X10_settle_38 G l (d + 1) P 0 v2 0 μ))))) : K_X10_settle_23 G l (d + 1) P v1 v2 μ := by
  unfold K_X10_settle_23
  refine xr_iload_n dX10_settle_23 rfl ?_
  obtain ⟨q1, hT2, hF3⟩ := h
  refine xr_if_eq (tgt := 64) dX10_settle_24 (by decide) q1  (fun c => ?_) (fun c => ?_)
  · have h := hT2 c
    exact xr_ret dX10_settle_64 rfl ⟨rfl, rfl, h⟩
  · have h := hF3 c
    refine xr_iload_n dX10_settle_27 rfl ?_
    refine xr_sipush dX10_settle_28 (by decide) ?_
    obtain ⟨q4, hT5, hF6⟩ := h
    refine xr_icmp_gt (tgt := 64) dX10_settle_31 (by decide) q4 (by decide) (fun c => ?_) (fun c => ?_)
    · have h := hT5 c
      exact xr_ret dX10_settle_64 rfl ⟨rfl, rfl, h⟩
    · have h := hF6 (Int.not_lt.mp c)
      refine xr_iconst dX10_settle_34 ?_
      refine xr_istore_n' (ll' := [some (xr G 58), some (xi 0), some (xi v2), none]) dX10_settle_35 (by decide) rfl rfl ?_
      refine xr_iconst dX10_settle_36 ?_
      refine xr_istore_n' (ll' := [some (xr G 58), some (xi 0), some (xi v2), some (xi 0)]) dX10_settle_37 (by decide) rfl rfl ?_
      exact h
set_option maxRecDepth 20000 in
theorem B_X10_settle_38 {G : xG} {l : Launch} {d : Nat} {P : xMem → Prop} {v1 v2 v3 : Int} {μ : xMem} (h : (iR v3 ∧ (16 ≤ v3 → K_X10_settle_23 G l (d + 1) P v1 (v2 + 1) μ) ∧ (v3 < 16 → CI G l d mX10_checkAll [xr G 58, xi v3] μ (fun r4 m5 => K_X10_settle_38 G l (d + 1) P (jor v1 r4) v2 (v3 + 1) m5)))) : K_X10_settle_38 G l (d + 1) P v1 v2 v3 μ := by
  unfold K_X10_settle_38
  refine xr_iload_n dX10_settle_38 rfl ?_
  refine xr_bipush dX10_settle_39 (by decide) ?_
  obtain ⟨q1, hT2, hF3⟩ := h
  refine xr_icmp_ge (tgt := 58) dX10_settle_41 (by decide) q1 (by decide) (fun c => ?_) (fun c => ?_)
  · have h := hT2 c
    refine xr_iinc' (ll' := [some (xr G 58), some (xi v1), some (xi (v2 + 1)), some (xi v3)]) dX10_settle_58 rfl (by decide) rfl rfl ?_
    refine xr_goto (tgt := 23) dX10_settle_61 (by decide) ?_
    refine xr_wk (ll' := [some (xr G 58), some (xi v1), some (xi (v2 + 1)), none]) ⟨rfl, ⟨rfl, ⟨rfl, trivial⟩⟩⟩ ?_
    exact h
  · have h := hF3 (Int.not_le.mp c)
    refine xr_iload_n dX10_settle_44 rfl ?_
    refine xr_aload_n dX10_settle_45 rfl ?_
    refine xr_iload_n dX10_settle_46 rfl ?_
    refine xr_cvI (As := [xi v3]) dX10_settle_47 mi_X10_checkAll ml_X10_49 se_X10_checkAll L_58 rfl rfl rfl (Nat.le_of_ble_eq_true rfl) h (fun r4 m5 hr4 h => ?_)
    refine xr_ior dX10_settle_50 ?_
    refine xr_istore_n' (ll' := [some (xr G 58), some (xi (jor v1 r4)), some (xi v2), some (xi v3)]) dX10_settle_51 (by decide) rfl rfl ?_
    refine xr_iinc' (ll' := [some (xr G 58), some (xi (jor v1 r4)), some (xi v2), some (xi (v3 + 1))]) dX10_settle_52 rfl (by decide) rfl rfl ?_
    refine xr_goto (tgt := 38) dX10_settle_55 (by decide) ?_
    exact h
theorem dX10_takePossible_0 : decode cX10_takePossible 0 = .ok (.aload_n 0, 1) := by decide +kernel
theorem dX10_takePossible_1 : decode cX10_takePossible 1 = .ok (.getfield 15, 3) := by decide +kernel
theorem dX10_takePossible_4 : decode cX10_takePossible 4 = .ok (.iload_n 1, 1) := by decide +kernel
theorem dX10_takePossible_5 : decode cX10_takePossible 5 = .ok (.iconst 0, 1) := by decide +kernel
theorem dX10_takePossible_6 : decode cX10_takePossible 6 = .ok (.iastore, 1) := by decide +kernel
theorem dX10_takePossible_7 : decode cX10_takePossible 7 = .ok (.iconst 0, 1) := by decide +kernel
theorem dX10_takePossible_8 : decode cX10_takePossible 8 = .ok (.istore_n 2, 1) := by decide +kernel
theorem dX10_takePossible_9 : decode cX10_takePossible 9 = .ok (.aload_n 0, 1) := by decide +kernel
theorem dX10_takePossible_10 : decode cX10_takePossible 10 = .ok (.getfield 35, 3) := by decide +kernel
theorem dX10_takePossible_13 : decode cX10_takePossible 13 = .ok (.iload_n 1, 1) := by decide +kernel
theorem dX10_takePossible_14 : decode cX10_takePossible 14 = .ok (.invokevirtual 53, 3) := by decide +kernel
theorem dX10_takePossible_17 : decode cX10_takePossible 17 = .ok (.ifCond .eq 68, 3) := by decide +kernel
theorem dX10_takePossible_20 : decode cX10_takePossible 20 = .ok (.iload_n 2, 1) := by decide +kernel
theorem dX10_takePossible_21 : decode cX10_takePossible 21 = .ok (.aload_n 0, 1) := by decide +kernel
theorem dX10_takePossible_22 : decode cX10_takePossible 22 = .ok (.getfield 31, 3) := by decide +kernel
theorem dX10_takePossible_25 : decode cX10_takePossible 25 = .ok (.getfield 58, 3) := by decide +kernel
theorem dX10_takePossible_28 : decode cX10_takePossible 28 = .ok (.iload_n 1, 1) := by decide +kernel
theorem dX10_takePossible_29 : decode cX10_takePossible 29 = .ok (.iaload, 1) := by decide +kernel
theorem dX10_takePossible_30 : decode cX10_takePossible 30 = .ok (.if_icmp .ge 55, 3) := by decide +kernel
theorem dX10_takePossible_33 : decode cX10_takePossible 33 = .ok (.aload_n 0, 1) := by decide +kernel
theorem dX10_takePossible_34 : decode cX10_takePossible 34 = .ok (.getfield 31, 3) := by decide +kernel
theorem dX10_takePossible_37 : decode cX10_takePossible 37 = .ok (.iload_n 1, 1) := by decide +kernel
theorem dX10_takePossible_38 : decode cX10_takePossible 38 = .ok (.iload_n 2, 1) := by decide +kernel
theorem dX10_takePossible_39 : decode cX10_takePossible 39 = .ok (.invokevirtual 61, 3) := by decide +kernel
theorem dX10_takePossible_42 : decode cX10_takePossible 42 = .ok (.istore_n 3, 1) := by decide +kernel
theorem dX10_takePossible_43 : decode cX10_takePossible 43 = .ok (.aload_n 0, 1) := by decide +kernel
theorem dX10_takePossible_44 : decode cX10_takePossible 44 = .ok (.iload_n 1, 1) := by decide +kernel
theorem dX10_takePossible_45 : decode cX10_takePossible 45 = .ok (.iload_n 3, 1) := by decide +kernel
theorem dX10_takePossible_46 : decode cX10_takePossible 46 = .ok (.invokevirtual 65, 3) := by decide +kernel
theorem dX10_takePossible_49 : decode cX10_takePossible 49 = .ok (.ifCond .eq 30, 3) := by decide +kernel
theorem dX10_takePossible_52 : decode cX10_takePossible 52 = .ok (.aload_n 0, 1) := by decide +kernel
theorem dX10_takePossible_53 : decode cX10_takePossible 53 = .ok (.getfield 9, 3) := by decide +kernel
theorem dX10_takePossible_56 : decode cX10_takePossible 56 = .ok (.iload_n 1, 1) := by decide +kernel
theorem dX10_takePossible_57 : decode cX10_takePossible 57 = .ok (.bipush 120, 2) := by decide +kernel
theorem dX10_takePossible_59 : decode cX10_takePossible 59 = .ok (.imul, 1) := by decide +kernel
theorem dX10_takePossible_60 : decode cX10_takePossible 60 = .ok (.aload_n 0, 1) := by decide +kernel
theorem dX10_takePossible_61 : decode cX10_takePossible 61 = .ok (.getfield 15, 3) := by decide +kernel
theorem dX10_takePossible_64 : decode cX10_takePossible 64 = .ok (.iload_n 1, 1) := by decide +kernel
theorem dX10_takePossible_65 : decode cX10_takePossible 65 = .ok (.iaload, 1) := by decide +kernel
theorem dX10_takePossible_66 : decode cX10_takePossible 66 = .ok (.iadd, 1) := by decide +kernel
theorem dX10_takePossible_67 : decode cX10_takePossible 67 = .ok (.iload_n 3, 1) := by decide +kernel
theorem dX10_takePossible_68 : decode cX10_takePossible 68 = .ok (.iastore, 1) := by decide +kernel
theorem dX10_takePossible_69 : decode cX10_takePossible 69 = .ok (.aload_n 0, 1) := by decide +kernel
theorem dX10_takePossible_70 : decode cX10_takePossible 70 = .ok (.getfield 15, 3) := by decide +kernel
theorem dX10_takePossible_73 : decode cX10_takePossible 73 = .ok (.iload_n 1, 1) := by decide +kernel
theorem dX10_takePossible_74 : decode cX10_takePossible 74 = .ok (.dup2, 1) := by decide +kernel
theorem dX10_takePossible_75 : decode cX10_takePossible 75 = .ok (.iaload, 1) := by decide +kernel
theorem dX10_takePossible_76 : decode cX10_takePossible 76 = .ok (.iconst 1, 1) := by decide +kernel
theorem dX10_takePossible_77 : decode cX10_takePossible 77 = .ok (.iadd, 1) := by decide +kernel
theorem dX10_takePossible_78 : decode cX10_takePossible 78 = .ok (.iastore, 1) := by decide +kernel
theorem dX10_takePossible_79 : decode cX10_takePossible 79 = .ok (.iinc 2 1, 3) := by decide +kernel
theorem dX10_takePossible_82 : decode cX10_takePossible 82 = .ok (.goto (-73), 3) := by decide +kernel
theorem dX10_takePossible_85 : decode cX10_takePossible 85 = .ok (.return_, 1) := by decide +kernel
def K_X10_takePossible_9 (G : xG) (l : Launch) (d : Nat) (P : xMem → Prop) (v1 v2 : Int) (μ : xMem) : Prop := RR G l d 0 0 false mX10_takePossible (qV P) 9 [some (xr G 58), some (xi v1), some (xi v2), none] [] LAY μ 0 0
set_option maxRecDepth 20000 in
theorem E_X10_takePossible {G : xG} {l : Launch} {d : Nat} {P : xMem → Prop} {v1 : Int} {μ : xMem} (h : ((0 ≤ v1 ∧ v1 < 16) ∧ K_X10_takePossible_9 G l (d + 1) P v1 0 (st2 μ 60 v1 0))) : CV G l (d + 1) mX10_takePossible [xr G 58, xi v1] μ P := by
  refine CC.ofRR (ll := [some (xr G 58), some (xi v1), none, none]) (by decide +kernel) (Nat.le_of_ble_eq_true rfl) rfl (fun h => by cases h) ?_
  refine xr_aload_n dX10_takePossible_0 rfl ?_
  refine xr_getR dX10_takePossible_1 fl_X10_15 L_58 rfl ?_
  refine xr_iload_n dX10_takePossible_4 rfl ?_
  refine xr_iconst dX10_takePossible_5 ?_
  obtain ⟨q1, h⟩ := h
  refine xr_iastore dX10_takePossible_6 L_60 rfl (by decide) q1 ?_
  refine xr_iconst dX10_takePossible_7 ?_
  refine xr_istore_n' (ll' := [some (xr G 58), some (xi v1), some (xi 0), none]) dX10_takePossible_8 (by decide) rfl rfl ?_
  exact h
set_option maxRecDepth 20000 in
theorem B_X10_takePossible_9 {G : xG} {l : Launch} {d : Nat} {P : xMem → Prop} {v1 v2 : Int} {μ : xMem} (h : CI G l d mX2_hasLight [xr G 46, xi v1] μ (fun r1 m2 => ((r1 = 0 → P m2) ∧ (r1 ≠ 0 → ((0 ≤ v1 ∧ v1 < 16) ∧ (iR v2 ∧ iR (m2 42 v1) ∧ ((m2 42 v1) ≤ v2 → P m2) ∧ (v2 < (m2 42 v1) → CI G l d mX6_wordAt [xr G 40, xi v1, xi v2] m2 (fun r10 m11 => CI G l d mX10_agrees [xr G 58, xi v1, xi r10] m11 (fun r12 m13 => ((r12 = 0 → K_X10_takePossible_9 G l (d + 1) P v1 (v2 + 1) m13) ∧ (r12 ≠ 0 → ((0 ≤ (v1 * 120) + (m13 60 v1) ∧ (v1 * 120) + (m13 60 v1) < 1920) ∧ K_X10_takePossible_9 G l (d + 1) P v1 (v2 + 1) (st2 (st2 m13 59 ((v1 * 120) + (m13 60 v1)) r10) 60 v1 ((m13 60 v1) + 1)))))))))))))) : K_X10_takePossible_9 G l (d + 1) P v1 v2 μ := by
  unfold K_X10_takePossible_9
  refine xr_aload_n dX10_takePossible_9 rfl ?_
  refine xr_getR dX10_takePossible_10 fl_X10_35 L_58 rfl ?_
  refine xr_iload_n dX10_takePossible_13 rfl ?_
  refine xr_cvI (As := [xi v1]) dX10_takePossible_14 mi_X2_hasLight ml_X10_53 se_X2_hasLight L_46 rfl rfl rfl (Nat.le_of_ble_eq_true rfl) h (fun r1 m2 hr1 h => ?_)
  obtain ⟨hT3, hF4⟩ := h
  refine xr_if_eq (tgt := 85) dX10_takePossible_17 (by decide) hr1  (fun c => ?_) (fun c => ?_)
  · have h := hT3 c
    exact xr_ret dX10_takePossible_85 rfl ⟨rfl, rfl, h⟩
  · have h := hF4 c
    refine xr_iload_n dX10_takePossible_20 rfl ?_
    refine xr_aload_n dX10_takePossible_21 rfl ?_
    refine xr_getR dX10_takePossible_22 fl_X10_31 L_58 rfl ?_
    refine xr_getR dX10_takePossible_25 fl_X10_58 L_40 rfl ?_
    refine xr_iload_n dX10_takePossible_28 rfl ?_
    obtain ⟨q5, h⟩ := h
    refine xr_iaload' (v := m2 42 v1) dX10_takePossible_29 L_42 rfl (by decide) q5 rfl ?_
    obtain ⟨q6, q7, hT8, hF9⟩ := h
    refine xr_icmp_ge (tgt := 85) dX10_takePossible_30 (by decide) q6 q7 (fun c => ?_) (fun c => ?_)
    · have h := hT8 c
      exact xr_ret dX10_takePossible_85 rfl ⟨rfl, rfl, h⟩
    · have h := hF9 (Int.not_le.mp c)
      refine xr_aload_n dX10_takePossible_33 rfl ?_
      refine xr_getR dX10_takePossible_34 fl_X10_31 L_58 rfl ?_
      refine xr_iload_n dX10_takePossible_37 rfl ?_
      refine xr_iload_n dX10_takePossible_38 rfl ?_
      refine xr_cvI (As := [xi v1, xi v2]) dX10_takePossible_39 mi_X6_wordAt ml_X10_61 se_X6_wordAt L_40 rfl rfl rfl (Nat.le_of_ble_eq_true rfl) h (fun r10 m11 hr10 h => ?_)
      refine xr_istore_n' (ll' := [some (xr G 58), some (xi v1), some (xi v2), some (xi r10)]) dX10_takePossible_42 (by decide) rfl rfl ?_
      refine xr_aload_n dX10_takePossible_43 rfl ?_
      refine xr_iload_n dX10_takePossible_44 rfl ?_
      refine xr_iload_n dX10_takePossible_45 rfl ?_
      refine xr_cvI (As := [xi v1, xi r10]) dX10_takePossible_46 mi_X10_agrees ml_X10_65 se_X10_agrees L_58 rfl rfl rfl (Nat.le_of_ble_eq_true rfl) h (fun r12 m13 hr12 h => ?_)
      obtain ⟨hT14, hF15⟩ := h
      refine xr_if_eq (tgt := 79) dX10_takePossible_49 (by decide) hr12  (fun c => ?_) (fun c => ?_)
      · have h := hT14 c
        refine xr_iinc' (ll' := [some (xr G 58), some (xi v1), some (xi (v2 + 1)), some (xi r10)]) dX10_takePossible_79 rfl (by decide) rfl rfl ?_
        refine xr_goto (tgt := 9) dX10_takePossible_82 (by decide) ?_
        refine xr_wk (ll' := [some (xr G 58), some (xi v1), some (xi (v2 + 1)), none]) ⟨rfl, ⟨rfl, ⟨rfl, trivial⟩⟩⟩ ?_
        exact h
      · have h := hF15 c
        refine xr_aload_n dX10_takePossible_52 rfl ?_
        refine xr_getR dX10_takePossible_53 fl_X10_9 L_58 rfl ?_
        refine xr_iload_n dX10_takePossible_56 rfl ?_
        refine xr_bipush dX10_takePossible_57 (by decide) ?_
        refine xr_imul dX10_takePossible_59 ?_
        refine xr_aload_n dX10_takePossible_60 rfl ?_
        refine xr_getR dX10_takePossible_61 fl_X10_15 L_58 rfl ?_
        refine xr_iload_n dX10_takePossible_64 rfl ?_
        refine xr_iaload' (v := m13 60 v1) dX10_takePossible_65 L_60 rfl (by decide) q5 rfl ?_
        refine xr_iadd dX10_takePossible_66 ?_
        refine xr_iload_n dX10_takePossible_67 rfl ?_
        obtain ⟨q16, h⟩ := h
        refine xr_iastore dX10_takePossible_68 L_59 rfl (by decide) q16 ?_
        refine xr_aload_n dX10_takePossible_69 rfl ?_
        refine xr_getR dX10_takePossible_70 fl_X10_15 L_58 rfl ?_
        refine xr_iload_n dX10_takePossible_73 rfl ?_
        refine xr_dup2 dX10_takePossible_74 rfl rfl ?_
        refine xr_iaload' (v := m13 60 v1) dX10_takePossible_75 L_60 rfl (by decide) q5 (by simp [st2, cpy]) ?_
        refine xr_iconst dX10_takePossible_76 ?_
        refine xr_iadd dX10_takePossible_77 ?_
        refine xr_iastore dX10_takePossible_78 L_60 rfl (by decide) q5 ?_
        refine xr_iinc' (ll' := [some (xr G 58), some (xi v1), some (xi (v2 + 1)), some (xi r10)]) dX10_takePossible_79 rfl (by decide) rfl rfl ?_
        refine xr_goto (tgt := 9) dX10_takePossible_82 (by decide) ?_
        refine xr_wk (ll' := [some (xr G 58), some (xi v1), some (xi (v2 + 1)), none]) ⟨rfl, ⟨rfl, ⟨rfl, trivial⟩⟩⟩ ?_
        exact h
theorem dX10_agrees_0 : decode cX10_agrees 0 = .ok (.iconst 0, 1) := by decide +kernel
theorem dX10_agrees_1 : decode cX10_agrees 1 = .ok (.istore_n 3, 1) := by decide +kernel
theorem dX10_agrees_2 : decode cX10_agrees 2 = .ok (.iload_n 3, 1) := by decide +kernel
theorem dX10_agrees_3 : decode cX10_agrees 3 = .ok (.aload_n 0, 1) := by decide +kernel
theorem dX10_agrees_4 : decode cX10_agrees 4 = .ok (.getfield 35, 3) := by decide +kernel
theorem dX10_agrees_7 : decode cX10_agrees 7 = .ok (.getfield 69, 3) := by decide +kernel
theorem dX10_agrees_10 : decode cX10_agrees 10 = .ok (.iload_n 1, 1) := by decide +kernel
theorem dX10_agrees_11 : decode cX10_agrees 11 = .ok (.iaload, 1) := by decide +kernel
theorem dX10_agrees_12 : decode cX10_agrees 12 = .ok (.if_icmp .ge 54, 3) := by decide +kernel
theorem dX10_agrees_15 : decode cX10_agrees 15 = .ok (.aload_n 0, 1) := by decide +kernel
theorem dX10_agrees_16 : decode cX10_agrees 16 = .ok (.getfield 35, 3) := by decide +kernel
theorem dX10_agrees_19 : decode cX10_agrees 19 = .ok (.getfield 72, 3) := by decide +kernel
theorem dX10_agrees_22 : decode cX10_agrees 22 = .ok (.aload_n 0, 1) := by decide +kernel
theorem dX10_agrees_23 : decode cX10_agrees 23 = .ok (.getfield 35, 3) := by decide +kernel
theorem dX10_agrees_26 : decode cX10_agrees 26 = .ok (.iload_n 1, 1) := by decide +kernel
theorem dX10_agrees_27 : decode cX10_agrees 27 = .ok (.iload_n 3, 1) := by decide +kernel
theorem dX10_agrees_28 : decode cX10_agrees 28 = .ok (.invokevirtual 75, 3) := by decide +kernel
theorem dX10_agrees_31 : decode cX10_agrees 31 = .ok (.iaload, 1) := by decide +kernel
theorem dX10_agrees_32 : decode cX10_agrees 32 = .ok (.istore 4, 2) := by decide +kernel
theorem dX10_agrees_34 : decode cX10_agrees 34 = .ok (.iload 4, 2) := by decide +kernel
theorem dX10_agrees_36 : decode cX10_agrees 36 = .ok (.ifCond .eq 24, 3) := by decide +kernel
theorem dX10_agrees_39 : decode cX10_agrees 39 = .ok (.iload 4, 2) := by decide +kernel
theorem dX10_agrees_41 : decode cX10_agrees 41 = .ok (.aload_n 0, 1) := by decide +kernel
theorem dX10_agrees_42 : decode cX10_agrees 42 = .ok (.getfield 27, 3) := by decide +kernel
theorem dX10_agrees_45 : decode cX10_agrees 45 = .ok (.iload_n 2, 1) := by decide +kernel
theorem dX10_agrees_46 : decode cX10_agrees 46 = .ok (.iload_n 3, 1) := by decide +kernel
theorem dX10_agrees_47 : decode cX10_agrees 47 = .ok (.invokevirtual 78, 3) := by decide +kernel
theorem dX10_agrees_50 : decode cX10_agrees 50 = .ok (.bipush 97, 2) := by decide +kernel
theorem dX10_agrees_52 : decode cX10_agrees 52 = .ok (.isub, 1) := by decide +kernel
theorem dX10_agrees_53 : decode cX10_agrees 53 = .ok (.iconst 1, 1) := by decide +kernel
theorem dX10_agrees_54 : decode cX10_agrees 54 = .ok (.iadd, 1) := by decide +kernel
theorem dX10_agrees_55 : decode cX10_agrees 55 = .ok (.if_icmp .eq 5, 3) := by decide +kernel
theorem dX10_agrees_58 : decode cX10_agrees 58 = .ok (.iconst 0, 1) := by decide +kernel
theorem dX10_agrees_59 : decode cX10_agrees 59 = .ok (.ireturn, 1) := by decide +kernel
theorem dX10_agrees_60 : decode cX10_agrees 60 = .ok (.iinc 3 1, 3) := by decide +kernel
theorem dX10_agrees_63 : decode cX10_agrees 63 = .ok (.goto (-61), 3) := by decide +kernel
theorem dX10_agrees_66 : decode cX10_agrees 66 = .ok (.iconst 1, 1) := by decide +kernel
theorem dX10_agrees_67 : decode cX10_agrees 67 = .ok (.ireturn, 1) := by decide +kernel
def K_X10_agrees_2 (G : xG) (l : Launch) (d : Nat) (P : Int → xMem → Prop) (v1 v2 v3 : Int) (μ : xMem) : Prop := RR G l d 0 0 false mX10_agrees (qI P) 2 [some (xr G 58), some (xi v1), some (xi v2), some (xi v3), none] [] LAY μ 0 0
set_option maxRecDepth 20000 in
theorem E_X10_agrees {G : xG} {l : Launch} {d : Nat} {P : Int → xMem → Prop} {v1 v2 : Int} {μ : xMem} (h : K_X10_agrees_2 G l (d + 1) P v1 v2 0 μ) : CI G l (d + 1) mX10_agrees [xr G 58, xi v1, xi v2] μ P := by
  refine CC.ofRR (ll := [some (xr G 58), some (xi v1), some (xi v2), none, none]) (by decide +kernel) (Nat.le_of_ble_eq_true rfl) rfl (fun h => by cases h) ?_
  refine xr_iconst dX10_agrees_0 ?_
  refine xr_istore_n' (ll' := [some (xr G 58), some (xi v1), some (xi v2), some (xi 0), none]) dX10_agrees_1 (by decide) rfl rfl ?_
  exact h
set_option maxRecDepth 20000 in
theorem B_X10_agrees_2 {G : xG} {l : Launch} {d : Nat} {P : Int → xMem → Prop} {v1 v2 v3 : Int} {μ : xMem} (h : ((0 ≤ v1 ∧ v1 < 16) ∧ (iR v3 ∧ iR (μ 49 v1) ∧ ((μ 49 v1) ≤ v3 → P 1 μ) ∧ (v3 < (μ 49 v1) → CI G l d mX2_cellOf [xr G 46, xi v1, xi v3] μ (fun r6 m7 => ((0 ≤ r6 ∧ r6 < 81) ∧ (iR (m7 52 r6) ∧ ((m7 52 r6) = 0 → K_X10_agrees_2 G l (d + 1) P v1 v2 (v3 + 1) m7) ∧ ((m7 52 r6) ≠ 0 → CI G l d mX3_letterAt [xr G 3, xi v2, xi v3] m7 (fun r12 m13 => (iR ((r12 - 97) + 1) ∧ ((m7 52 r6) = ((r12 - 97) + 1) → K_X10_agrees_2 G l (d + 1) P v1 v2 (v3 + 1) m13) ∧ ((m7 52 r6) ≠ ((r12 - 97) + 1) → P 0 m13))))))))))) : K_X10_agrees_2 G l (d + 1) P v1 v2 v3 μ := by
  unfold K_X10_agrees_2
  refine xr_iload_n dX10_agrees_2 rfl ?_
  refine xr_aload_n dX10_agrees_3 rfl ?_
  refine xr_getR dX10_agrees_4 fl_X10_35 L_58 rfl ?_
  refine xr_getR dX10_agrees_7 fl_X10_69 L_46 rfl ?_
  refine xr_iload_n dX10_agrees_10 rfl ?_
  obtain ⟨q1, h⟩ := h
  refine xr_iaload' (v := μ 49 v1) dX10_agrees_11 L_49 rfl (by decide) q1 rfl ?_
  obtain ⟨q2, q3, hT4, hF5⟩ := h
  refine xr_icmp_ge (tgt := 66) dX10_agrees_12 (by decide) q2 q3 (fun c => ?_) (fun c => ?_)
  · have h := hT4 c
    refine xr_iconst dX10_agrees_66 ?_
    exact xr_zret dX10_agrees_67 rfl (x_nz (by decide)).1 ⟨rfl, _, rfl, x_01 (by decide), h⟩
  · have h := hF5 (Int.not_le.mp c)
    refine xr_aload_n dX10_agrees_15 rfl ?_
    refine xr_getR dX10_agrees_16 fl_X10_35 L_58 rfl ?_
    refine xr_getR dX10_agrees_19 fl_X10_72 L_46 rfl ?_
    refine xr_aload_n dX10_agrees_22 rfl ?_
    refine xr_getR dX10_agrees_23 fl_X10_35 L_58 rfl ?_
    refine xr_iload_n dX10_agrees_26 rfl ?_
    refine xr_iload_n dX10_agrees_27 rfl ?_
    refine xr_cvI (As := [xi v1, xi v3]) dX10_agrees_28 mi_X2_cellOf ml_X10_75 se_X2_cellOf L_46 rfl rfl rfl (Nat.le_of_ble_eq_true rfl) h (fun r6 m7 hr6 h => ?_)
    obtain ⟨q8, h⟩ := h
    refine xr_iaload' (v := m7 52 r6) dX10_agrees_31 L_52 rfl (by decide) q8 rfl ?_
    refine xr_istore' (ll' := [some (xr G 58), some (xi v1), some (xi v2), some (xi v3), some (xi (m7 52 r6))]) dX10_agrees_32 (by decide) rfl rfl ?_
    refine xr_iload dX10_agrees_34 rfl ?_
    obtain ⟨q9, hT10, hF11⟩ := h
    refine xr_if_eq (tgt := 60) dX10_agrees_36 (by decide) q9  (fun c => ?_) (fun c => ?_)
    · have h := hT10 c
      refine xr_iinc' (ll' := [some (xr G 58), some (xi v1), some (xi v2), some (xi (v3 + 1)), some (xi (m7 52 r6))]) dX10_agrees_60 rfl (by decide) rfl rfl ?_
      refine xr_goto (tgt := 2) dX10_agrees_63 (by decide) ?_
      refine xr_wk (ll' := [some (xr G 58), some (xi v1), some (xi v2), some (xi (v3 + 1)), none]) ⟨rfl, ⟨rfl, ⟨rfl, ⟨rfl, trivial⟩⟩⟩⟩ ?_
      exact h
    · have h := hF11 c
      refine xr_iload dX10_agrees_39 rfl ?_
      refine xr_aload_n dX10_agrees_41 rfl ?_
      refine xr_getR dX10_agrees_42 fl_X10_27 L_58 rfl ?_
      refine xr_iload_n dX10_agrees_45 rfl ?_
      refine xr_iload_n dX10_agrees_46 rfl ?_
      refine xr_cvI (As := [xi v2, xi v3]) dX10_agrees_47 mi_X3_letterAt ml_X10_78 se_X3_letterAt L_3 rfl rfl rfl (Nat.le_of_ble_eq_true rfl) h (fun r12 m13 hr12 h => ?_)
      refine xr_bipush dX10_agrees_50 (by decide) ?_
      refine xr_isub dX10_agrees_52 ?_
      refine xr_iconst dX10_agrees_53 ?_
      refine xr_iadd dX10_agrees_54 ?_
      obtain ⟨q14, hT15, hF16⟩ := h
      refine xr_icmp_eq (tgt := 60) dX10_agrees_55 (by decide) q9 q14 (fun c => ?_) (fun c => ?_)
      · have h := hT15 c
        refine xr_iinc' (ll' := [some (xr G 58), some (xi v1), some (xi v2), some (xi (v3 + 1)), some (xi (m7 52 r6))]) dX10_agrees_60 rfl (by decide) rfl rfl ?_
        refine xr_goto (tgt := 2) dX10_agrees_63 (by decide) ?_
        refine xr_wk (ll' := [some (xr G 58), some (xi v1), some (xi v2), some (xi (v3 + 1)), none]) ⟨rfl, ⟨rfl, ⟨rfl, ⟨rfl, trivial⟩⟩⟩⟩ ?_
        exact h
      · have h := hF16 c
        refine xr_iconst dX10_agrees_58 ?_
        exact xr_zret dX10_agrees_59 rfl (x_nz (by decide)).1 ⟨rfl, _, rfl, x_01 (by decide), h⟩
theorem dX10_checkAll_0 : decode cX10_checkAll 0 = .ok (.iconst 0, 1) := by decide +kernel
theorem dX10_checkAll_1 : decode cX10_checkAll 1 = .ok (.istore_n 2, 1) := by decide +kernel
theorem dX10_checkAll_2 : decode cX10_checkAll 2 = .ok (.iconst 0, 1) := by decide +kernel
theorem dX10_checkAll_3 : decode cX10_checkAll 3 = .ok (.istore_n 3, 1) := by decide +kernel
theorem dX10_checkAll_4 : decode cX10_checkAll 4 = .ok (.iload_n 3, 1) := by decide +kernel
theorem dX10_checkAll_5 : decode cX10_checkAll 5 = .ok (.bipush 16, 2) := by decide +kernel
theorem dX10_checkAll_7 : decode cX10_checkAll 7 = .ok (.if_icmp .ge 53, 3) := by decide +kernel
theorem dX10_checkAll_10 : decode cX10_checkAll 10 = .ok (.aload_n 0, 1) := by decide +kernel
theorem dX10_checkAll_11 : decode cX10_checkAll 11 = .ok (.getfield 35, 3) := by decide +kernel
theorem dX10_checkAll_14 : decode cX10_checkAll 14 = .ok (.iload_n 1, 1) := by decide +kernel
theorem dX10_checkAll_15 : decode cX10_checkAll 15 = .ok (.iload_n 3, 1) := by decide +kernel
theorem dX10_checkAll_16 : decode cX10_checkAll 16 = .ok (.invokevirtual 83, 3) := by decide +kernel
theorem dX10_checkAll_19 : decode cX10_checkAll 19 = .ok (.iconst (-1), 1) := by decide +kernel
theorem dX10_checkAll_20 : decode cX10_checkAll 20 = .ok (.if_icmp .eq 34, 3) := by decide +kernel
theorem dX10_checkAll_23 : decode cX10_checkAll 23 = .ok (.iload_n 2, 1) := by decide +kernel
theorem dX10_checkAll_24 : decode cX10_checkAll 24 = .ok (.aload_n 0, 1) := by decide +kernel
theorem dX10_checkAll_25 : decode cX10_checkAll 25 = .ok (.iload_n 1, 1) := by decide +kernel
theorem dX10_checkAll_26 : decode cX10_checkAll 26 = .ok (.aload_n 0, 1) := by decide +kernel
theorem dX10_checkAll_27 : decode cX10_checkAll 27 = .ok (.getfield 35, 3) := by decide +kernel
theorem dX10_checkAll_30 : decode cX10_checkAll 30 = .ok (.iload_n 1, 1) := by decide +kernel
theorem dX10_checkAll_31 : decode cX10_checkAll 31 = .ok (.iload_n 3, 1) := by decide +kernel
theorem dX10_checkAll_32 : decode cX10_checkAll 32 = .ok (.invokevirtual 83, 3) := by decide +kernel
theorem dX10_checkAll_35 : decode cX10_checkAll 35 = .ok (.aload_n 0, 1) := by decide +kernel
theorem dX10_checkAll_36 : decode cX10_checkAll 36 = .ok (.iload_n 3, 1) := by decide +kernel
theorem dX10_checkAll_37 : decode cX10_checkAll 37 = .ok (.aload_n 0, 1) := by decide +kernel
theorem dX10_checkAll_38 : decode cX10_checkAll 38 = .ok (.getfield 35, 3) := by decide +kernel
theorem dX10_checkAll_41 : decode cX10_checkAll 41 = .ok (.iload_n 3, 1) := by decide +kernel
theorem dX10_checkAll_42 : decode cX10_checkAll 42 = .ok (.iload_n 1, 1) := by decide +kernel
theorem dX10_checkAll_43 : decode cX10_checkAll 43 = .ok (.invokevirtual 83, 3) := by decide +kernel
theorem dX10_checkAll_46 : decode cX10_checkAll 46 = .ok (.invokevirtual 86, 3) := by decide +kernel
theorem dX10_checkAll_49 : decode cX10_checkAll 49 = .ok (.invokevirtual 89, 3) := by decide +kernel
theorem dX10_checkAll_52 : decode cX10_checkAll 52 = .ok (.ior, 1) := by decide +kernel
theorem dX10_checkAll_53 : decode cX10_checkAll 53 = .ok (.istore_n 2, 1) := by decide +kernel
theorem dX10_checkAll_54 : decode cX10_checkAll 54 = .ok (.iinc 3 1, 3) := by decide +kernel
theorem dX10_checkAll_57 : decode cX10_checkAll 57 = .ok (.goto (-53), 3) := by decide +kernel
theorem dX10_checkAll_60 : decode cX10_checkAll 60 = .ok (.iload_n 2, 1) := by decide +kernel
theorem dX10_checkAll_61 : decode cX10_checkAll 61 = .ok (.ireturn, 1) := by decide +kernel
def K_X10_checkAll_4 (G : xG) (l : Launch) (d : Nat) (P : Int → xMem → Prop) (v1 v2 v3 : Int) (μ : xMem) : Prop := RR G l d 0 0 false mX10_checkAll (qI P) 4 [some (xr G 58), some (xi v1), some (xi v2), some (xi v3)] [] LAY μ 0 0
set_option maxRecDepth 20000 in
theorem E_X10_checkAll {G : xG} {l : Launch} {d : Nat} {P : Int → xMem → Prop} {v1 : Int} {μ : xMem} (h : K_X10_checkAll_4 G l (d + 1) P v1 0 0 μ) : CI G l (d + 1) mX10_checkAll [xr G 58, xi v1] μ P := by
  refine CC.ofRR (ll := [some (xr G 58), some (xi v1), none, none]) (by decide +kernel) (Nat.le_of_ble_eq_true rfl) rfl (fun h => by cases h) ?_
  refine xr_iconst dX10_checkAll_0 ?_
  refine xr_istore_n' (ll' := [some (xr G 58), some (xi v1), some (xi 0), none]) dX10_checkAll_1 (by decide) rfl rfl ?_
  refine xr_iconst dX10_checkAll_2 ?_
  refine xr_istore_n' (ll' := [some (xr G 58), some (xi v1), some (xi 0), some (xi 0)]) dX10_checkAll_3 (by decide) rfl rfl ?_
  exact h
set_option maxRecDepth 20000 in
theorem B_X10_checkAll_4 {G : xG} {l : Launch} {d : Nat} {P : Int → xMem → Prop} {v1 v2 v3 : Int} {μ : xMem} (h : (iR v3 ∧ (16 ≤ v3 → ((v2 = 0 ∨ v2 = 1) ∧ P v2 μ)) ∧ (v3 < 16 → CI G l d mX2_crossingOf [xr G 46, xi v1, xi v3] μ (fun r5 m6 => ((r5 = (-1) → K_X10_checkAll_4 G l (d + 1) P v1 v2 (v3 + 1) m6) ∧ (r5 ≠ (-1) → CI G l d mX2_crossingOf [xr G 46, xi v1, xi v3] m6 (fun r9 m10 => CI G l d mX2_crossingOf [xr G 46, xi v3, xi v1] m10 (fun r11 m12 => CI G l d mX10_lettersLeft [xr G 58, xi v3, xi r11] m12 (fun r13 m14 => CI G l d mX10_check [xr G 58, xi v1, xi r9, xi r13] m14 (fun r15 m16 => K_X10_checkAll_4 G l (d + 1) P v1 (jor v2 r15) (v3 + 1) m16)))))))))) : K_X10_checkAll_4 G l (d + 1) P v1 v2 v3 μ := by
  unfold K_X10_checkAll_4
  refine xr_iload_n dX10_checkAll_4 rfl ?_
  refine xr_bipush dX10_checkAll_5 (by decide) ?_
  obtain ⟨q1, hT2, hF3⟩ := h
  refine xr_icmp_ge (tgt := 60) dX10_checkAll_7 (by decide) q1 (by decide) (fun c => ?_) (fun c => ?_)
  · have h := hT2 c
    refine xr_iload_n dX10_checkAll_60 rfl ?_
    obtain ⟨q4, h⟩ := h
    exact xr_zret dX10_checkAll_61 rfl (x_nz q4).1 ⟨rfl, _, rfl, x_01 q4, h⟩
  · have h := hF3 (Int.not_le.mp c)
    refine xr_aload_n dX10_checkAll_10 rfl ?_
    refine xr_getR dX10_checkAll_11 fl_X10_35 L_58 rfl ?_
    refine xr_iload_n dX10_checkAll_14 rfl ?_
    refine xr_iload_n dX10_checkAll_15 rfl ?_
    refine xr_cvI (As := [xi v1, xi v3]) dX10_checkAll_16 mi_X2_crossingOf ml_X10_83 se_X2_crossingOf L_46 rfl rfl rfl (Nat.le_of_ble_eq_true rfl) h (fun r5 m6 hr5 h => ?_)
    refine xr_iconst dX10_checkAll_19 ?_
    obtain ⟨hT7, hF8⟩ := h
    refine xr_icmp_eq (tgt := 54) dX10_checkAll_20 (by decide) hr5 (by decide) (fun c => ?_) (fun c => ?_)
    · have h := hT7 c
      refine xr_iinc' (ll' := [some (xr G 58), some (xi v1), some (xi v2), some (xi (v3 + 1))]) dX10_checkAll_54 rfl (by decide) rfl rfl ?_
      refine xr_goto (tgt := 4) dX10_checkAll_57 (by decide) ?_
      exact h
    · have h := hF8 c
      refine xr_iload_n dX10_checkAll_23 rfl ?_
      refine xr_aload_n dX10_checkAll_24 rfl ?_
      refine xr_iload_n dX10_checkAll_25 rfl ?_
      refine xr_aload_n dX10_checkAll_26 rfl ?_
      refine xr_getR dX10_checkAll_27 fl_X10_35 L_58 rfl ?_
      refine xr_iload_n dX10_checkAll_30 rfl ?_
      refine xr_iload_n dX10_checkAll_31 rfl ?_
      refine xr_cvI (As := [xi v1, xi v3]) dX10_checkAll_32 mi_X2_crossingOf ml_X10_83 se_X2_crossingOf L_46 rfl rfl rfl (Nat.le_of_ble_eq_true rfl) h (fun r9 m10 hr9 h => ?_)
      refine xr_aload_n dX10_checkAll_35 rfl ?_
      refine xr_iload_n dX10_checkAll_36 rfl ?_
      refine xr_aload_n dX10_checkAll_37 rfl ?_
      refine xr_getR dX10_checkAll_38 fl_X10_35 L_58 rfl ?_
      refine xr_iload_n dX10_checkAll_41 rfl ?_
      refine xr_iload_n dX10_checkAll_42 rfl ?_
      refine xr_cvI (As := [xi v3, xi v1]) dX10_checkAll_43 mi_X2_crossingOf ml_X10_83 se_X2_crossingOf L_46 rfl rfl rfl (Nat.le_of_ble_eq_true rfl) h (fun r11 m12 hr11 h => ?_)
      refine xr_cvI (As := [xi v3, xi r11]) dX10_checkAll_46 mi_X10_lettersLeft ml_X10_86 se_X10_lettersLeft L_58 rfl rfl rfl (Nat.le_of_ble_eq_true rfl) h (fun r13 m14 hr13 h => ?_)
      refine xr_cvI (As := [xi v1, xi r9, xi r13]) dX10_checkAll_49 mi_X10_check ml_X10_89 se_X10_check L_58 rfl rfl rfl (Nat.le_of_ble_eq_true rfl) h (fun r15 m16 hr15 h => ?_)
      refine xr_ior dX10_checkAll_52 ?_
      refine xr_istore_n' (ll' := [some (xr G 58), some (xi v1), some (xi (jor v2 r15)), some (xi v3)]) dX10_checkAll_53 (by decide) rfl rfl ?_
      refine xr_iinc' (ll' := [some (xr G 58), some (xi v1), some (xi (jor v2 r15)), some (xi (v3 + 1))]) dX10_checkAll_54 rfl (by decide) rfl rfl ?_
      refine xr_goto (tgt := 4) dX10_checkAll_57 (by decide) ?_
      exact h
theorem dX10_lettersLeft_0 : decode cX10_lettersLeft 0 = .ok (.iconst 0, 1) := by decide +kernel
theorem dX10_lettersLeft_1 : decode cX10_lettersLeft 1 = .ok (.istore_n 3, 1) := by decide +kernel
theorem dX10_lettersLeft_2 : decode cX10_lettersLeft 2 = .ok (.iconst 0, 1) := by decide +kernel
theorem dX10_lettersLeft_3 : decode cX10_lettersLeft 3 = .ok (.istore 4, 2) := by decide +kernel
theorem dX10_lettersLeft_5 : decode cX10_lettersLeft 5 = .ok (.iload 4, 2) := by decide +kernel
theorem dX10_lettersLeft_7 : decode cX10_lettersLeft 7 = .ok (.aload_n 0, 1) := by decide +kernel
theorem dX10_lettersLeft_8 : decode cX10_lettersLeft 8 = .ok (.getfield 15, 3) := by decide +kernel
theorem dX10_lettersLeft_11 : decode cX10_lettersLeft 11 = .ok (.iload_n 1, 1) := by decide +kernel
theorem dX10_lettersLeft_12 : decode cX10_lettersLeft 12 = .ok (.iaload, 1) := by decide +kernel
theorem dX10_lettersLeft_13 : decode cX10_lettersLeft 13 = .ok (.if_icmp .ge 37, 3) := by decide +kernel
theorem dX10_lettersLeft_16 : decode cX10_lettersLeft 16 = .ok (.iload_n 3, 1) := by decide +kernel
theorem dX10_lettersLeft_17 : decode cX10_lettersLeft 17 = .ok (.iconst 1, 1) := by decide +kernel
theorem dX10_lettersLeft_18 : decode cX10_lettersLeft 18 = .ok (.aload_n 0, 1) := by decide +kernel
theorem dX10_lettersLeft_19 : decode cX10_lettersLeft 19 = .ok (.getfield 27, 3) := by decide +kernel
theorem dX10_lettersLeft_22 : decode cX10_lettersLeft 22 = .ok (.aload_n 0, 1) := by decide +kernel
theorem dX10_lettersLeft_23 : decode cX10_lettersLeft 23 = .ok (.getfield 9, 3) := by decide +kernel
theorem dX10_lettersLeft_26 : decode cX10_lettersLeft 26 = .ok (.iload_n 1, 1) := by decide +kernel
theorem dX10_lettersLeft_27 : decode cX10_lettersLeft 27 = .ok (.bipush 120, 2) := by decide +kernel
theorem dX10_lettersLeft_29 : decode cX10_lettersLeft 29 = .ok (.imul, 1) := by decide +kernel
theorem dX10_lettersLeft_30 : decode cX10_lettersLeft 30 = .ok (.iload 4, 2) := by decide +kernel
theorem dX10_lettersLeft_32 : decode cX10_lettersLeft 32 = .ok (.iadd, 1) := by decide +kernel
theorem dX10_lettersLeft_33 : decode cX10_lettersLeft 33 = .ok (.iaload, 1) := by decide +kernel
theorem dX10_lettersLeft_34 : decode cX10_lettersLeft 34 = .ok (.iload_n 2, 1) := by decide +kernel
theorem dX10_lettersLeft_35 : decode cX10_lettersLeft 35 = .ok (.invokevirtual 78, 3) := by decide +kernel
theorem dX10_lettersLeft_38 : decode cX10_lettersLeft 38 = .ok (.bipush 97, 2) := by decide +kernel
theorem dX10_lettersLeft_40 : decode cX10_lettersLeft 40 = .ok (.isub, 1) := by decide +kernel
theorem dX10_lettersLeft_41 : decode cX10_lettersLeft 41 = .ok (.ishl, 1) := by decide +kernel
theorem dX10_lettersLeft_42 : decode cX10_lettersLeft 42 = .ok (.ior, 1) := by decide +kernel
theorem dX10_lettersLeft_43 : decode cX10_lettersLeft 43 = .ok (.istore_n 3, 1) := by decide +kernel
theorem dX10_lettersLeft_44 : decode cX10_lettersLeft 44 = .ok (.iinc 4 1, 3) := by decide +kernel
theorem dX10_lettersLeft_47 : decode cX10_lettersLeft 47 = .ok (.goto (-42), 3) := by decide +kernel
theorem dX10_lettersLeft_50 : decode cX10_lettersLeft 50 = .ok (.iload_n 3, 1) := by decide +kernel
theorem dX10_lettersLeft_51 : decode cX10_lettersLeft 51 = .ok (.ireturn, 1) := by decide +kernel
def K_X10_lettersLeft_5 (G : xG) (l : Launch) (d : Nat) (P : Int → xMem → Prop) (v1 v2 v3 v4 : Int) (μ : xMem) : Prop := RR G l d 0 0 false mX10_lettersLeft (qI P) 5 [some (xr G 58), some (xi v1), some (xi v2), some (xi v3), some (xi v4)] [] LAY μ 0 0
set_option maxRecDepth 20000 in
theorem E_X10_lettersLeft {G : xG} {l : Launch} {d : Nat} {P : Int → xMem → Prop} {v1 v2 : Int} {μ : xMem} (h : K_X10_lettersLeft_5 G l (d + 1) P v1 v2 0 0 μ) : CI G l (d + 1) mX10_lettersLeft [xr G 58, xi v1, xi v2] μ P := by
  refine CC.ofRR (ll := [some (xr G 58), some (xi v1), some (xi v2), none, none]) (by decide +kernel) (Nat.le_of_ble_eq_true rfl) rfl (fun h => by cases h) ?_
  refine xr_iconst dX10_lettersLeft_0 ?_
  refine xr_istore_n' (ll' := [some (xr G 58), some (xi v1), some (xi v2), some (xi 0), none]) dX10_lettersLeft_1 (by decide) rfl rfl ?_
  refine xr_iconst dX10_lettersLeft_2 ?_
  refine xr_istore' (ll' := [some (xr G 58), some (xi v1), some (xi v2), some (xi 0), some (xi 0)]) dX10_lettersLeft_3 (by decide) rfl rfl ?_
  exact h
set_option maxRecDepth 20000 in
theorem B_X10_lettersLeft_5 {G : xG} {l : Launch} {d : Nat} {P : Int → xMem → Prop} {v1 v2 v3 v4 : Int} {μ : xMem} (h : ((0 ≤ v1 ∧ v1 < 16) ∧ (iR v4 ∧ iR (μ 60 v1) ∧ ((μ 60 v1) ≤ v4 → (iR v3 ∧ P v3 μ)) ∧ (v4 < (μ 60 v1) → ((0 ≤ (v1 * 120) + v4 ∧ (v1 * 120) + v4 < 1920) ∧ CI G l d mX3_letterAt [xr G 3, xi (μ 59 ((v1 * 120) + v4)), xi v2] μ (fun r8 m9 => K_X10_lettersLeft_5 G l (d + 1) P v1 v2 (jor v3 (jshl 1 (r8 - 97))) (v4 + 1) m9)))))) : K_X10_lettersLeft_5 G l (d + 1) P v1 v2 v3 v4 μ := by
  unfold K_X10_lettersLeft_5
  refine xr_iload dX10_lettersLeft_5 rfl ?_
  refine xr_aload_n dX10_lettersLeft_7 rfl ?_
  refine xr_getR dX10_lettersLeft_8 fl_X10_15 L_58 rfl ?_
  refine xr_iload_n dX10_lettersLeft_11 rfl ?_
  obtain ⟨q1, h⟩ := h
  refine xr_iaload' (v := μ 60 v1) dX10_lettersLeft_12 L_60 rfl (by decide) q1 rfl ?_
  obtain ⟨q2, q3, hT4, hF5⟩ := h
  refine xr_icmp_ge (tgt := 50) dX10_lettersLeft_13 (by decide) q2 q3 (fun c => ?_) (fun c => ?_)
  · have h := hT4 c
    refine xr_iload_n dX10_lettersLeft_50 rfl ?_
    obtain ⟨q6, h⟩ := h
    exact xr_iret dX10_lettersLeft_51 rfl ⟨rfl, _, rfl, q6, h⟩
  · have h := hF5 (Int.not_le.mp c)
    refine xr_iload_n dX10_lettersLeft_16 rfl ?_
    refine xr_iconst dX10_lettersLeft_17 ?_
    refine xr_aload_n dX10_lettersLeft_18 rfl ?_
    refine xr_getR dX10_lettersLeft_19 fl_X10_27 L_58 rfl ?_
    refine xr_aload_n dX10_lettersLeft_22 rfl ?_
    refine xr_getR dX10_lettersLeft_23 fl_X10_9 L_58 rfl ?_
    refine xr_iload_n dX10_lettersLeft_26 rfl ?_
    refine xr_bipush dX10_lettersLeft_27 (by decide) ?_
    refine xr_imul dX10_lettersLeft_29 ?_
    refine xr_iload dX10_lettersLeft_30 rfl ?_
    refine xr_iadd dX10_lettersLeft_32 ?_
    obtain ⟨q7, h⟩ := h
    refine xr_iaload' (v := μ 59 ((v1 * 120) + v4)) dX10_lettersLeft_33 L_59 rfl (by decide) q7 rfl ?_
    refine xr_iload_n dX10_lettersLeft_34 rfl ?_
    refine xr_cvI (As := [xi (μ 59 ((v1 * 120) + v4)), xi v2]) dX10_lettersLeft_35 mi_X3_letterAt ml_X10_78 se_X3_letterAt L_3 rfl rfl rfl (Nat.le_of_ble_eq_true rfl) h (fun r8 m9 hr8 h => ?_)
    refine xr_bipush dX10_lettersLeft_38 (by decide) ?_
    refine xr_isub dX10_lettersLeft_40 ?_
    refine xr_ishl dX10_lettersLeft_41 ?_
    refine xr_ior dX10_lettersLeft_42 ?_
    refine xr_istore_n' (ll' := [some (xr G 58), some (xi v1), some (xi v2), some (xi (jor v3 (jshl 1 (r8 - 97)))), some (xi v4)]) dX10_lettersLeft_43 (by decide) rfl rfl ?_
    refine xr_iinc' (ll' := [some (xr G 58), some (xi v1), some (xi v2), some (xi (jor v3 (jshl 1 (r8 - 97)))), some (xi (v4 + 1))]) dX10_lettersLeft_44 rfl (by decide) rfl rfl ?_
    refine xr_goto (tgt := 5) dX10_lettersLeft_47 (by decide) ?_
    exact h
theorem dX10_check_0 : decode cX10_check 0 = .ok (.iconst 0, 1) := by decide +kernel
theorem dX10_check_1 : decode cX10_check 1 = .ok (.istore 4, 2) := by decide +kernel
theorem dX10_check_3 : decode cX10_check 3 = .ok (.iconst 0, 1) := by decide +kernel
theorem dX10_check_4 : decode cX10_check 4 = .ok (.istore 5, 2) := by decide +kernel
theorem dX10_check_6 : decode cX10_check 6 = .ok (.iload 5, 2) := by decide +kernel
theorem dX10_check_8 : decode cX10_check 8 = .ok (.aload_n 0, 1) := by decide +kernel
theorem dX10_check_9 : decode cX10_check 9 = .ok (.getfield 15, 3) := by decide +kernel
theorem dX10_check_12 : decode cX10_check 12 = .ok (.iload_n 1, 1) := by decide +kernel
theorem dX10_check_13 : decode cX10_check 13 = .ok (.iaload, 1) := by decide +kernel
theorem dX10_check_14 : decode cX10_check 14 = .ok (.if_icmp .ge 60, 3) := by decide +kernel
theorem dX10_check_17 : decode cX10_check 17 = .ok (.aload_n 0, 1) := by decide +kernel
theorem dX10_check_18 : decode cX10_check 18 = .ok (.getfield 9, 3) := by decide +kernel
theorem dX10_check_21 : decode cX10_check 21 = .ok (.iload_n 1, 1) := by decide +kernel
theorem dX10_check_22 : decode cX10_check 22 = .ok (.bipush 120, 2) := by decide +kernel
theorem dX10_check_24 : decode cX10_check 24 = .ok (.imul, 1) := by decide +kernel
theorem dX10_check_25 : decode cX10_check 25 = .ok (.iload 5, 2) := by decide +kernel
theorem dX10_check_27 : decode cX10_check 27 = .ok (.iadd, 1) := by decide +kernel
theorem dX10_check_28 : decode cX10_check 28 = .ok (.iaload, 1) := by decide +kernel
theorem dX10_check_29 : decode cX10_check 29 = .ok (.istore 6, 2) := by decide +kernel
theorem dX10_check_31 : decode cX10_check 31 = .ok (.iload_n 3, 1) := by decide +kernel
theorem dX10_check_32 : decode cX10_check 32 = .ok (.iconst 1, 1) := by decide +kernel
theorem dX10_check_33 : decode cX10_check 33 = .ok (.aload_n 0, 1) := by decide +kernel
theorem dX10_check_34 : decode cX10_check 34 = .ok (.getfield 27, 3) := by decide +kernel
theorem dX10_check_37 : decode cX10_check 37 = .ok (.iload 6, 2) := by decide +kernel
theorem dX10_check_39 : decode cX10_check 39 = .ok (.iload_n 2, 1) := by decide +kernel
theorem dX10_check_40 : decode cX10_check 40 = .ok (.invokevirtual 78, 3) := by decide +kernel
theorem dX10_check_43 : decode cX10_check 43 = .ok (.bipush 97, 2) := by decide +kernel
theorem dX10_check_45 : decode cX10_check 45 = .ok (.isub, 1) := by decide +kernel
theorem dX10_check_46 : decode cX10_check 46 = .ok (.ishl, 1) := by decide +kernel
theorem dX10_check_47 : decode cX10_check 47 = .ok (.iand, 1) := by decide +kernel
theorem dX10_check_48 : decode cX10_check 48 = .ok (.ifCond .eq 20, 3) := by decide +kernel
theorem dX10_check_51 : decode cX10_check 51 = .ok (.aload_n 0, 1) := by decide +kernel
theorem dX10_check_52 : decode cX10_check 52 = .ok (.getfield 9, 3) := by decide +kernel
theorem dX10_check_55 : decode cX10_check 55 = .ok (.iload_n 1, 1) := by decide +kernel
theorem dX10_check_56 : decode cX10_check 56 = .ok (.bipush 120, 2) := by decide +kernel
theorem dX10_check_58 : decode cX10_check 58 = .ok (.imul, 1) := by decide +kernel
theorem dX10_check_59 : decode cX10_check 59 = .ok (.iload 4, 2) := by decide +kernel
theorem dX10_check_61 : decode cX10_check 61 = .ok (.iadd, 1) := by decide +kernel
theorem dX10_check_62 : decode cX10_check 62 = .ok (.iload 6, 2) := by decide +kernel
theorem dX10_check_64 : decode cX10_check 64 = .ok (.iastore, 1) := by decide +kernel
theorem dX10_check_65 : decode cX10_check 65 = .ok (.iinc 4 1, 3) := by decide +kernel
theorem dX10_check_68 : decode cX10_check 68 = .ok (.iinc 5 1, 3) := by decide +kernel
theorem dX10_check_71 : decode cX10_check 71 = .ok (.goto (-65), 3) := by decide +kernel
theorem dX10_check_74 : decode cX10_check 74 = .ok (.iload 4, 2) := by decide +kernel
theorem dX10_check_76 : decode cX10_check 76 = .ok (.aload_n 0, 1) := by decide +kernel
theorem dX10_check_77 : decode cX10_check 77 = .ok (.getfield 15, 3) := by decide +kernel
theorem dX10_check_80 : decode cX10_check 80 = .ok (.iload_n 1, 1) := by decide +kernel
theorem dX10_check_81 : decode cX10_check 81 = .ok (.iaload, 1) := by decide +kernel
theorem dX10_check_82 : decode cX10_check 82 = .ok (.if_icmp .ge 7, 3) := by decide +kernel
theorem dX10_check_85 : decode cX10_check 85 = .ok (.iconst 1, 1) := by decide +kernel
theorem dX10_check_86 : decode cX10_check 86 = .ok (.goto 4, 3) := by decide +kernel
theorem dX10_check_89 : decode cX10_check 89 = .ok (.iconst 0, 1) := by decide +kernel
theorem dX10_check_90 : decode cX10_check 90 = .ok (.istore 5, 2) := by decide +kernel
theorem dX10_check_92 : decode cX10_check 92 = .ok (.aload_n 0, 1) := by decide +kernel
theorem dX10_check_93 : decode cX10_check 93 = .ok (.getfield 15, 3) := by decide +kernel
theorem dX10_check_96 : decode cX10_check 96 = .ok (.iload_n 1, 1) := by decide +kernel
theorem dX10_check_97 : decode cX10_check 97 = .ok (.iload 4, 2) := by decide +kernel
theorem dX10_check_99 : decode cX10_check 99 = .ok (.iastore, 1) := by decide +kernel
theorem dX10_check_100 : decode cX10_check 100 = .ok (.iload 5, 2) := by decide +kernel
theorem dX10_check_102 : decode cX10_check 102 = .ok (.ireturn, 1) := by decide +kernel
def K_X10_check_6 (G : xG) (l : Launch) (d : Nat) (P : Int → xMem → Prop) (v1 v2 v3 v4 v5 : Int) (μ : xMem) : Prop := RR G l d 0 0 false mX10_check (qI P) 6 [some (xr G 58), some (xi v1), some (xi v2), some (xi v3), some (xi v4), some (xi v5), none] [] LAY μ 0 0
def K_X10_check_90 (G : xG) (l : Launch) (d : Nat) (P : Int → xMem → Prop) (v1 v4 s0 : Int) (μ : xMem) : Prop := RR G l d 0 0 false mX10_check (qI P) 90 [some (xr G 58), some (xi v1), none, none, some (xi v4), none, none] [xi s0] LAY μ 0 0
set_option maxRecDepth 20000 in
theorem E_X10_check {G : xG} {l : Launch} {d : Nat} {P : Int → xMem → Prop} {v1 v2 v3 : Int} {μ : xMem} (h : K_X10_check_6 G l (d + 1) P v1 v2 v3 0 0 μ) : CI G l (d + 1) mX10_check [xr G 58, xi v1, xi v2, xi v3] μ P := by
  refine CC.ofRR (ll := [some (xr G 58), some (xi v1), some (xi v2), some (xi v3), none, none, none]) (by decide +kernel) (Nat.le_of_ble_eq_true rfl) rfl (fun h => by cases h) ?_
  refine xr_iconst dX10_check_0 ?_
  refine xr_istore' (ll' := [some (xr G 58), some (xi v1), some (xi v2), some (xi v3), some (xi 0), none, none]) dX10_check_1 (by decide) rfl rfl ?_
  refine xr_iconst dX10_check_3 ?_
  refine xr_istore' (ll' := [some (xr G 58), some (xi v1), some (xi v2), some (xi v3), some (xi 0), some (xi 0), none]) dX10_check_4 (by decide) rfl rfl ?_
  exact h
set_option maxRecDepth 20000 in
theorem B_X10_check_6 {G : xG} {l : Launch} {d : Nat} {P : Int → xMem → Prop} {v1 v2 v3 v4 v5 : Int} {μ : xMem} (h : ((0 ≤ v1 ∧ v1 < 16) ∧ (iR v5 ∧ iR (μ 60 v1) ∧ ((μ 60 v1) ≤ v5 → (iR v4 ∧ ((μ 60 v1) ≤ v4 → K_X10_check_90 G l (d + 1) P v1 v4 0 μ) ∧ (v4 < (μ 60 v1) → K_X10_check_90 G l (d + 1) P v1 v4 1 μ))) ∧ (v5 < (μ 60 v1) → ((0 ≤ (v1 * 120) + v5 ∧ (v1 * 120) + v5 < 1920) ∧ CI G l d mX3_letterAt [xr G 3, xi (μ 59 ((v1 * 120) + v5)), xi v2] μ (fun r10 m11 => (((jand v3 (jshl 1 (r10 - 97))) = 0 → K_X10_check_6 G l (d + 1) P v1 v2 v3 v4 (v5 + 1) m11) ∧ ((jand v3 (jshl 1 (r10 - 97))) ≠ 0 → ((0 ≤ (v1 * 120) + v4 ∧ (v1 * 120) + v4 < 1920) ∧ K_X10_check_6 G l (d + 1) P v1 v2 v3 (v4 + 1) (v5 + 1) (st2 m11 59 ((v1 * 120) + v4) (μ 59 ((v1 * 120) + v5)))))))))))) : K_X10_check_6 G l (d + 1) P v1 v2 v3 v4 v5 μ := by
  unfold K_X10_check_6
  refine xr_iload dX10_check_6 rfl ?_
  refine xr_aload_n dX10_check_8 rfl ?_
  refine xr_getR dX10_check_9 fl_X10_15 L_58 rfl ?_
  refine xr_iload_n dX10_check_12 rfl ?_
  obtain ⟨q1, h⟩ := h
  refine xr_iaload' (v := μ 60 v1) dX10_check_13 L_60 rfl (by decide) q1 rfl ?_
  obtain ⟨q2, q3, hT4, hF5⟩ := h
  refine xr_icmp_ge (tgt := 74) dX10_check_14 (by decide) q2 q3 (fun c => ?_) (fun c => ?_)
  · have h := hT4 c
    refine xr_iload dX10_check_74 rfl ?_
    refine xr_aload_n dX10_check_76 rfl ?_
    refine xr_getR dX10_check_77 fl_X10_15 L_58 rfl ?_
    refine xr_iload_n dX10_check_80 rfl ?_
    refine xr_iaload' (v := μ 60 v1) dX10_check_81 L_60 rfl (by decide) q1 rfl ?_
    obtain ⟨q6, hT7, hF8⟩ := h
    refine xr_icmp_ge (tgt := 89) dX10_check_82 (by decide) q6 q3 (fun c => ?_) (fun c => ?_)
    · have h := hT7 c
      refine xr_iconst dX10_check_89 ?_
      refine xr_wk (ll' := [some (xr G 58), some (xi v1), none, none, some (xi v4), none, none]) ⟨rfl, ⟨rfl, ⟨rfl, trivial⟩⟩⟩ ?_
      exact h
    · have h := hF8 (Int.not_le.mp c)
      refine xr_iconst dX10_check_85 ?_
      refine xr_goto (tgt := 90) dX10_check_86 (by decide) ?_
      refine xr_wk (ll' := [some (xr G 58), some (xi v1), none, none, some (xi v4), none, none]) ⟨rfl, ⟨rfl, ⟨rfl, trivial⟩⟩⟩ ?_
      exact h
  · have h := hF5 (Int.not_le.mp c)
    refine xr_aload_n dX10_check_17 rfl ?_
    refine xr_getR dX10_check_18 fl_X10_9 L_58 rfl ?_
    refine xr_iload_n dX10_check_21 rfl ?_
    refine xr_bipush dX10_check_22 (by decide) ?_
    refine xr_imul dX10_check_24 ?_
    refine xr_iload dX10_check_25 rfl ?_
    refine xr_iadd dX10_check_27 ?_
    obtain ⟨q9, h⟩ := h
    refine xr_iaload' (v := μ 59 ((v1 * 120) + v5)) dX10_check_28 L_59 rfl (by decide) q9 rfl ?_
    refine xr_istore' (ll' := [some (xr G 58), some (xi v1), some (xi v2), some (xi v3), some (xi v4), some (xi v5), some (xi (μ 59 ((v1 * 120) + v5)))]) dX10_check_29 (by decide) rfl rfl ?_
    refine xr_iload_n dX10_check_31 rfl ?_
    refine xr_iconst dX10_check_32 ?_
    refine xr_aload_n dX10_check_33 rfl ?_
    refine xr_getR dX10_check_34 fl_X10_27 L_58 rfl ?_
    refine xr_iload dX10_check_37 rfl ?_
    refine xr_iload_n dX10_check_39 rfl ?_
    refine xr_cvI (As := [xi (μ 59 ((v1 * 120) + v5)), xi v2]) dX10_check_40 mi_X3_letterAt ml_X10_78 se_X3_letterAt L_3 rfl rfl rfl (Nat.le_of_ble_eq_true rfl) h (fun r10 m11 hr10 h => ?_)
    refine xr_bipush dX10_check_43 (by decide) ?_
    refine xr_isub dX10_check_45 ?_
    refine xr_ishl dX10_check_46 ?_
    refine xr_iand dX10_check_47 ?_
    obtain ⟨hT12, hF13⟩ := h
    refine xr_if_eq (tgt := 68) dX10_check_48 (by decide) (jR_and _ _)  (fun c => ?_) (fun c => ?_)
    · have h := hT12 c
      refine xr_iinc' (ll' := [some (xr G 58), some (xi v1), some (xi v2), some (xi v3), some (xi v4), some (xi (v5 + 1)), some (xi (μ 59 ((v1 * 120) + v5)))]) dX10_check_68 rfl (by decide) rfl rfl ?_
      refine xr_goto (tgt := 6) dX10_check_71 (by decide) ?_
      refine xr_wk (ll' := [some (xr G 58), some (xi v1), some (xi v2), some (xi v3), some (xi v4), some (xi (v5 + 1)), none]) ⟨rfl, ⟨rfl, ⟨rfl, ⟨rfl, ⟨rfl, ⟨rfl, trivial⟩⟩⟩⟩⟩⟩ ?_
      exact h
    · have h := hF13 c
      refine xr_aload_n dX10_check_51 rfl ?_
      refine xr_getR dX10_check_52 fl_X10_9 L_58 rfl ?_
      refine xr_iload_n dX10_check_55 rfl ?_
      refine xr_bipush dX10_check_56 (by decide) ?_
      refine xr_imul dX10_check_58 ?_
      refine xr_iload dX10_check_59 rfl ?_
      refine xr_iadd dX10_check_61 ?_
      refine xr_iload dX10_check_62 rfl ?_
      obtain ⟨q14, h⟩ := h
      refine xr_iastore dX10_check_64 L_59 rfl (by decide) q14 ?_
      refine xr_iinc' (ll' := [some (xr G 58), some (xi v1), some (xi v2), some (xi v3), some (xi (v4 + 1)), some (xi v5), some (xi (μ 59 ((v1 * 120) + v5)))]) dX10_check_65 rfl (by decide) rfl rfl ?_
      refine xr_iinc' (ll' := [some (xr G 58), some (xi v1), some (xi v2), some (xi v3), some (xi (v4 + 1)), some (xi (v5 + 1)), some (xi (μ 59 ((v1 * 120) + v5)))]) dX10_check_68 rfl (by decide) rfl rfl ?_
      refine xr_goto (tgt := 6) dX10_check_71 (by decide) ?_
      refine xr_wk (ll' := [some (xr G 58), some (xi v1), some (xi v2), some (xi v3), some (xi (v4 + 1)), some (xi (v5 + 1)), none]) ⟨rfl, ⟨rfl, ⟨rfl, ⟨rfl, ⟨rfl, ⟨rfl, trivial⟩⟩⟩⟩⟩⟩ ?_
      exact h
set_option maxRecDepth 20000 in
theorem B_X10_check_90 {G : xG} {l : Launch} {d : Nat} {P : Int → xMem → Prop} {v1 v4 s0 : Int} {μ : xMem} (h : ((0 ≤ v1 ∧ v1 < 16) ∧ ((s0 = 0 ∨ s0 = 1) ∧ P s0 (st2 μ 60 v1 v4)))) : K_X10_check_90 G l (d + 1) P v1 v4 s0 μ := by
  unfold K_X10_check_90
  refine xr_istore' (ll' := [some (xr G 58), some (xi v1), none, none, some (xi v4), some (xi s0), none]) dX10_check_90 (by decide) rfl rfl ?_
  refine xr_aload_n dX10_check_92 rfl ?_
  refine xr_getR dX10_check_93 fl_X10_15 L_58 rfl ?_
  refine xr_iload_n dX10_check_96 rfl ?_
  refine xr_iload dX10_check_97 rfl ?_
  obtain ⟨q1, h⟩ := h
  refine xr_iastore dX10_check_99 L_60 rfl (by decide) q1 ?_
  refine xr_iload dX10_check_100 rfl ?_
  obtain ⟨q2, h⟩ := h
  exact xr_zret dX10_check_102 rfl (x_nz q2).1 ⟨rfl, _, rfl, x_01 q2, h⟩
theorem dX10_nextOne_0 : decode cX10_nextOne 0 = .ok (.iconst 0, 1) := by decide +kernel
theorem dX10_nextOne_1 : decode cX10_nextOne 1 = .ok (.istore_n 1, 1) := by decide +kernel
theorem dX10_nextOne_2 : decode cX10_nextOne 2 = .ok (.iload_n 1, 1) := by decide +kernel
theorem dX10_nextOne_3 : decode cX10_nextOne 3 = .ok (.bipush 16, 2) := by decide +kernel
theorem dX10_nextOne_5 : decode cX10_nextOne 5 = .ok (.if_icmp .ge 19, 3) := by decide +kernel
theorem dX10_nextOne_8 : decode cX10_nextOne 8 = .ok (.aload_n 0, 1) := by decide +kernel
theorem dX10_nextOne_9 : decode cX10_nextOne 9 = .ok (.iload_n 1, 1) := by decide +kernel
theorem dX10_nextOne_10 : decode cX10_nextOne 10 = .ok (.invokevirtual 93, 3) := by decide +kernel
theorem dX10_nextOne_13 : decode cX10_nextOne 13 = .ok (.ifCond .eq 5, 3) := by decide +kernel
theorem dX10_nextOne_16 : decode cX10_nextOne 16 = .ok (.iload_n 1, 1) := by decide +kernel
theorem dX10_nextOne_17 : decode cX10_nextOne 17 = .ok (.ireturn, 1) := by decide +kernel
theorem dX10_nextOne_18 : decode cX10_nextOne 18 = .ok (.iinc 1 1, 3) := by decide +kernel
theorem dX10_nextOne_21 : decode cX10_nextOne 21 = .ok (.goto (-19), 3) := by decide +kernel
theorem dX10_nextOne_24 : decode cX10_nextOne 24 = .ok (.iconst (-1), 1) := by decide +kernel
theorem dX10_nextOne_25 : decode cX10_nextOne 25 = .ok (.ireturn, 1) := by decide +kernel
def K_X10_nextOne_2 (G : xG) (l : Launch) (d : Nat) (P : Int → xMem → Prop) (v1 : Int) (μ : xMem) : Prop := RR G l d 0 0 false mX10_nextOne (qI P) 2 [some (xr G 58), some (xi v1)] [] LAY μ 0 0
set_option maxRecDepth 20000 in
theorem E_X10_nextOne {G : xG} {l : Launch} {d : Nat} {P : Int → xMem → Prop} {μ : xMem} (h : K_X10_nextOne_2 G l (d + 1) P 0 μ) : CI G l (d + 1) mX10_nextOne [xr G 58] μ P := by
  refine CC.ofRR (ll := [some (xr G 58), none]) (by decide +kernel) (Nat.le_of_ble_eq_true rfl) rfl (fun h => by cases h) ?_
  refine xr_iconst dX10_nextOne_0 ?_
  refine xr_istore_n' (ll' := [some (xr G 58), some (xi 0)]) dX10_nextOne_1 (by decide) rfl rfl ?_
  exact h
set_option maxRecDepth 20000 in
theorem B_X10_nextOne_2 {G : xG} {l : Launch} {d : Nat} {P : Int → xMem → Prop} {v1 : Int} {μ : xMem} (h : (iR v1 ∧ (16 ≤ v1 → P (-1) μ) ∧ (v1 < 16 → CI G l d mX10_isNext [xr G 58, xi v1] μ (fun r4 m5 => ((r4 = 0 → K_X10_nextOne_2 G l (d + 1) P (v1 + 1) m5) ∧ (r4 ≠ 0 → P v1 m5)))))) : K_X10_nextOne_2 G l (d + 1) P v1 μ := by
  unfold K_X10_nextOne_2
  refine xr_iload_n dX10_nextOne_2 rfl ?_
  refine xr_bipush dX10_nextOne_3 (by decide) ?_
  obtain ⟨q1, hT2, hF3⟩ := h
  refine xr_icmp_ge (tgt := 24) dX10_nextOne_5 (by decide) q1 (by decide) (fun c => ?_) (fun c => ?_)
  · have h := hT2 c
    refine xr_iconst dX10_nextOne_24 ?_
    exact xr_iret dX10_nextOne_25 rfl ⟨rfl, _, rfl, (by decide), h⟩
  · have h := hF3 (Int.not_le.mp c)
    refine xr_aload_n dX10_nextOne_8 rfl ?_
    refine xr_iload_n dX10_nextOne_9 rfl ?_
    refine xr_cvI (As := [xi v1]) dX10_nextOne_10 mi_X10_isNext ml_X10_93 se_X10_isNext L_58 rfl rfl rfl (Nat.le_of_ble_eq_true rfl) h (fun r4 m5 hr4 h => ?_)
    obtain ⟨hT6, hF7⟩ := h
    refine xr_if_eq (tgt := 18) dX10_nextOne_13 (by decide) hr4  (fun c => ?_) (fun c => ?_)
    · have h := hT6 c
      refine xr_iinc' (ll' := [some (xr G 58), some (xi (v1 + 1))]) dX10_nextOne_18 rfl (by decide) rfl rfl ?_
      refine xr_goto (tgt := 2) dX10_nextOne_21 (by decide) ?_
      exact h
    · have h := hF7 c
      refine xr_iload_n dX10_nextOne_16 rfl ?_
      exact xr_iret dX10_nextOne_17 rfl ⟨rfl, _, rfl, q1, h⟩
theorem dX10_isNext_0 : decode cX10_isNext 0 = .ok (.aload_n 0, 1) := by decide +kernel
theorem dX10_isNext_1 : decode cX10_isNext 1 = .ok (.getfield 15, 3) := by decide +kernel
theorem dX10_isNext_4 : decode cX10_isNext 4 = .ok (.iload_n 1, 1) := by decide +kernel
theorem dX10_isNext_5 : decode cX10_isNext 5 = .ok (.iaload, 1) := by decide +kernel
theorem dX10_isNext_6 : decode cX10_isNext 6 = .ok (.iconst 1, 1) := by decide +kernel
theorem dX10_isNext_7 : decode cX10_isNext 7 = .ok (.if_icmp .eq 5, 3) := by decide +kernel
theorem dX10_isNext_10 : decode cX10_isNext 10 = .ok (.iconst 0, 1) := by decide +kernel
theorem dX10_isNext_11 : decode cX10_isNext 11 = .ok (.ireturn, 1) := by decide +kernel
theorem dX10_isNext_12 : decode cX10_isNext 12 = .ok (.iconst 0, 1) := by decide +kernel
theorem dX10_isNext_13 : decode cX10_isNext 13 = .ok (.istore_n 2, 1) := by decide +kernel
theorem dX10_isNext_14 : decode cX10_isNext 14 = .ok (.iload_n 2, 1) := by decide +kernel
theorem dX10_isNext_15 : decode cX10_isNext 15 = .ok (.aload_n 0, 1) := by decide +kernel
theorem dX10_isNext_16 : decode cX10_isNext 16 = .ok (.getfield 35, 3) := by decide +kernel
theorem dX10_isNext_19 : decode cX10_isNext 19 = .ok (.getfield 69, 3) := by decide +kernel
theorem dX10_isNext_22 : decode cX10_isNext 22 = .ok (.iload_n 1, 1) := by decide +kernel
theorem dX10_isNext_23 : decode cX10_isNext 23 = .ok (.iaload, 1) := by decide +kernel
theorem dX10_isNext_24 : decode cX10_isNext 24 = .ok (.if_icmp .ge 31, 3) := by decide +kernel
theorem dX10_isNext_27 : decode cX10_isNext 27 = .ok (.aload_n 0, 1) := by decide +kernel
theorem dX10_isNext_28 : decode cX10_isNext 28 = .ok (.getfield 35, 3) := by decide +kernel
theorem dX10_isNext_31 : decode cX10_isNext 31 = .ok (.getfield 72, 3) := by decide +kernel
theorem dX10_isNext_34 : decode cX10_isNext 34 = .ok (.aload_n 0, 1) := by decide +kernel
theorem dX10_isNext_35 : decode cX10_isNext 35 = .ok (.getfield 35, 3) := by decide +kernel
theorem dX10_isNext_38 : decode cX10_isNext 38 = .ok (.iload_n 1, 1) := by decide +kernel
theorem dX10_isNext_39 : decode cX10_isNext 39 = .ok (.iload_n 2, 1) := by decide +kernel
theorem dX10_isNext_40 : decode cX10_isNext 40 = .ok (.invokevirtual 75, 3) := by decide +kernel
theorem dX10_isNext_43 : decode cX10_isNext 43 = .ok (.iaload, 1) := by decide +kernel
theorem dX10_isNext_44 : decode cX10_isNext 44 = .ok (.ifCond .ne 5, 3) := by decide +kernel
theorem dX10_isNext_47 : decode cX10_isNext 47 = .ok (.iconst 1, 1) := by decide +kernel
theorem dX10_isNext_48 : decode cX10_isNext 48 = .ok (.ireturn, 1) := by decide +kernel
theorem dX10_isNext_49 : decode cX10_isNext 49 = .ok (.iinc 2 1, 3) := by decide +kernel
theorem dX10_isNext_52 : decode cX10_isNext 52 = .ok (.goto (-38), 3) := by decide +kernel
theorem dX10_isNext_55 : decode cX10_isNext 55 = .ok (.iconst 0, 1) := by decide +kernel
theorem dX10_isNext_56 : decode cX10_isNext 56 = .ok (.ireturn, 1) := by decide +kernel
def K_X10_isNext_14 (G : xG) (l : Launch) (d : Nat) (P : Int → xMem → Prop) (v1 v2 : Int) (μ : xMem) : Prop := RR G l d 0 0 false mX10_isNext (qI P) 14 [some (xr G 58), some (xi v1), some (xi v2)] [] LAY μ 0 0
set_option maxRecDepth 20000 in
theorem E_X10_isNext {G : xG} {l : Launch} {d : Nat} {P : Int → xMem → Prop} {v1 : Int} {μ : xMem} (h : ((0 ≤ v1 ∧ v1 < 16) ∧ (iR (μ 60 v1) ∧ ((μ 60 v1) = 1 → K_X10_isNext_14 G l (d + 1) P v1 0 μ) ∧ ((μ 60 v1) ≠ 1 → P 0 μ)))) : CI G l (d + 1) mX10_isNext [xr G 58, xi v1] μ P := by
  refine CC.ofRR (ll := [some (xr G 58), some (xi v1), none]) (by decide +kernel) (Nat.le_of_ble_eq_true rfl) rfl (fun h => by cases h) ?_
  refine xr_aload_n dX10_isNext_0 rfl ?_
  refine xr_getR dX10_isNext_1 fl_X10_15 L_58 rfl ?_
  refine xr_iload_n dX10_isNext_4 rfl ?_
  obtain ⟨q1, h⟩ := h
  refine xr_iaload' (v := μ 60 v1) dX10_isNext_5 L_60 rfl (by decide) q1 rfl ?_
  refine xr_iconst dX10_isNext_6 ?_
  obtain ⟨q2, hT3, hF4⟩ := h
  refine xr_icmp_eq (tgt := 12) dX10_isNext_7 (by decide) q2 (by decide) (fun c => ?_) (fun c => ?_)
  · have h := hT3 c
    refine xr_iconst dX10_isNext_12 ?_
    refine xr_istore_n' (ll' := [some (xr G 58), some (xi v1), some (xi 0)]) dX10_isNext_13 (by decide) rfl rfl ?_
    exact h
  · have h := hF4 c
    refine xr_iconst dX10_isNext_10 ?_
    exact xr_zret dX10_isNext_11 rfl (x_nz (by decide)).1 ⟨rfl, _, rfl, x_01 (by decide), h⟩
set_option maxRecDepth 20000 in
theorem B_X10_isNext_14 {G : xG} {l : Launch} {d : Nat} {P : Int → xMem → Prop} {v1 v2 : Int} {μ : xMem} (h : ((0 ≤ v1 ∧ v1 < 16) ∧ (iR v2 ∧ iR (μ 49 v1) ∧ ((μ 49 v1) ≤ v2 → P 0 μ) ∧ (v2 < (μ 49 v1) → CI G l d mX2_cellOf [xr G 46, xi v1, xi v2] μ (fun r6 m7 => ((0 ≤ r6 ∧ r6 < 81) ∧ (iR (m7 52 r6) ∧ ((m7 52 r6) ≠ 0 → K_X10_isNext_14 G l (d + 1) P v1 (v2 + 1) m7) ∧ ((m7 52 r6) = 0 → P 1 m7)))))))) : K_X10_isNext_14 G l (d + 1) P v1 v2 μ := by
  unfold K_X10_isNext_14
  refine xr_iload_n dX10_isNext_14 rfl ?_
  refine xr_aload_n dX10_isNext_15 rfl ?_
  refine xr_getR dX10_isNext_16 fl_X10_35 L_58 rfl ?_
  refine xr_getR dX10_isNext_19 fl_X10_69 L_46 rfl ?_
  refine xr_iload_n dX10_isNext_22 rfl ?_
  obtain ⟨q1, h⟩ := h
  refine xr_iaload' (v := μ 49 v1) dX10_isNext_23 L_49 rfl (by decide) q1 rfl ?_
  obtain ⟨q2, q3, hT4, hF5⟩ := h
  refine xr_icmp_ge (tgt := 55) dX10_isNext_24 (by decide) q2 q3 (fun c => ?_) (fun c => ?_)
  · have h := hT4 c
    refine xr_iconst dX10_isNext_55 ?_
    exact xr_zret dX10_isNext_56 rfl (x_nz (by decide)).1 ⟨rfl, _, rfl, x_01 (by decide), h⟩
  · have h := hF5 (Int.not_le.mp c)
    refine xr_aload_n dX10_isNext_27 rfl ?_
    refine xr_getR dX10_isNext_28 fl_X10_35 L_58 rfl ?_
    refine xr_getR dX10_isNext_31 fl_X10_72 L_46 rfl ?_
    refine xr_aload_n dX10_isNext_34 rfl ?_
    refine xr_getR dX10_isNext_35 fl_X10_35 L_58 rfl ?_
    refine xr_iload_n dX10_isNext_38 rfl ?_
    refine xr_iload_n dX10_isNext_39 rfl ?_
    refine xr_cvI (As := [xi v1, xi v2]) dX10_isNext_40 mi_X2_cellOf ml_X10_75 se_X2_cellOf L_46 rfl rfl rfl (Nat.le_of_ble_eq_true rfl) h (fun r6 m7 hr6 h => ?_)
    obtain ⟨q8, h⟩ := h
    refine xr_iaload' (v := m7 52 r6) dX10_isNext_43 L_52 rfl (by decide) q8 rfl ?_
    obtain ⟨q9, hT10, hF11⟩ := h
    refine xr_if_ne (tgt := 49) dX10_isNext_44 (by decide) q9  (fun c => ?_) (fun c => ?_)
    · have h := hT10 c
      refine xr_iinc' (ll' := [some (xr G 58), some (xi v1), some (xi (v2 + 1))]) dX10_isNext_49 rfl (by decide) rfl rfl ?_
      refine xr_goto (tgt := 14) dX10_isNext_52 (by decide) ?_
      exact h
    · have h := hF11 c
      refine xr_iconst dX10_isNext_47 ?_
      exact xr_zret dX10_isNext_48 rfl (x_nz (by decide)).1 ⟨rfl, _, rfl, x_01 (by decide), h⟩
theorem dX10_enterAll_0 : decode cX10_enterAll 0 = .ok (.iconst 0, 1) := by decide +kernel
theorem dX10_enterAll_1 : decode cX10_enterAll 1 = .ok (.istore_n 1, 1) := by decide +kernel
theorem dX10_enterAll_2 : decode cX10_enterAll 2 = .ok (.iconst 0, 1) := by decide +kernel
theorem dX10_enterAll_3 : decode cX10_enterAll 3 = .ok (.istore_n 2, 1) := by decide +kernel
theorem dX10_enterAll_4 : decode cX10_enterAll 4 = .ok (.iload_n 2, 1) := by decide +kernel
theorem dX10_enterAll_5 : decode cX10_enterAll 5 = .ok (.bipush 16, 2) := by decide +kernel
theorem dX10_enterAll_7 : decode cX10_enterAll 7 = .ok (.if_icmp .ge 34, 3) := by decide +kernel
theorem dX10_enterAll_10 : decode cX10_enterAll 10 = .ok (.aload_n 0, 1) := by decide +kernel
theorem dX10_enterAll_11 : decode cX10_enterAll 11 = .ok (.iload_n 2, 1) := by decide +kernel
theorem dX10_enterAll_12 : decode cX10_enterAll 12 = .ok (.invokevirtual 93, 3) := by decide +kernel
theorem dX10_enterAll_15 : decode cX10_enterAll 15 = .ok (.ifCond .eq 20, 3) := by decide +kernel
theorem dX10_enterAll_18 : decode cX10_enterAll 18 = .ok (.aload_n 0, 1) := by decide +kernel
theorem dX10_enterAll_19 : decode cX10_enterAll 19 = .ok (.iload_n 2, 1) := by decide +kernel
theorem dX10_enterAll_20 : decode cX10_enterAll 20 = .ok (.aload_n 0, 1) := by decide +kernel
theorem dX10_enterAll_21 : decode cX10_enterAll 21 = .ok (.getfield 9, 3) := by decide +kernel
theorem dX10_enterAll_24 : decode cX10_enterAll 24 = .ok (.iload_n 2, 1) := by decide +kernel
theorem dX10_enterAll_25 : decode cX10_enterAll 25 = .ok (.bipush 120, 2) := by decide +kernel
theorem dX10_enterAll_27 : decode cX10_enterAll 27 = .ok (.imul, 1) := by decide +kernel
theorem dX10_enterAll_28 : decode cX10_enterAll 28 = .ok (.iaload, 1) := by decide +kernel
theorem dX10_enterAll_29 : decode cX10_enterAll 29 = .ok (.invokevirtual 96, 3) := by decide +kernel
theorem dX10_enterAll_32 : decode cX10_enterAll 32 = .ok (.iinc 1 1, 3) := by decide +kernel
theorem dX10_enterAll_35 : decode cX10_enterAll 35 = .ok (.iinc 2 1, 3) := by decide +kernel
theorem dX10_enterAll_38 : decode cX10_enterAll 38 = .ok (.goto (-34), 3) := by decide +kernel
theorem dX10_enterAll_41 : decode cX10_enterAll 41 = .ok (.iload_n 1, 1) := by decide +kernel
theorem dX10_enterAll_42 : decode cX10_enterAll 42 = .ok (.ireturn, 1) := by decide +kernel
def K_X10_enterAll_4 (G : xG) (l : Launch) (d : Nat) (P : Int → xMem → Prop) (v1 v2 : Int) (μ : xMem) : Prop := RR G l d 0 0 false mX10_enterAll (qI P) 4 [some (xr G 58), some (xi v1), some (xi v2)] [] LAY μ 0 0
set_option maxRecDepth 20000 in
theorem E_X10_enterAll {G : xG} {l : Launch} {d : Nat} {P : Int → xMem → Prop} {μ : xMem} (h : K_X10_enterAll_4 G l (d + 1) P 0 0 μ) : CI G l (d + 1) mX10_enterAll [xr G 58] μ P := by
  refine CC.ofRR (ll := [some (xr G 58), none, none]) (by decide +kernel) (Nat.le_of_ble_eq_true rfl) rfl (fun h => by cases h) ?_
  refine xr_iconst dX10_enterAll_0 ?_
  refine xr_istore_n' (ll' := [some (xr G 58), some (xi 0), none]) dX10_enterAll_1 (by decide) rfl rfl ?_
  refine xr_iconst dX10_enterAll_2 ?_
  refine xr_istore_n' (ll' := [some (xr G 58), some (xi 0), some (xi 0)]) dX10_enterAll_3 (by decide) rfl rfl ?_
  exact h
set_option maxRecDepth 20000 in
theorem B_X10_enterAll_4 {G : xG} {l : Launch} {d : Nat} {P : Int → xMem → Prop} {v1 v2 : Int} {μ : xMem} (h : (iR v2 ∧ (16 ≤ v2 → (iR v1 ∧ P v1 μ)) ∧ (v2 < 16 → CI G l d mX10_isNext [xr G 58, xi v2] μ (fun r5 m6 => ((r5 = 0 → K_X10_enterAll_4 G l (d + 1) P v1 (v2 + 1) m6) ∧ (r5 ≠ 0 → ((0 ≤ v2 * 120 ∧ v2 * 120 < 1920) ∧ CV G l d mX10_enterWord [xr G 58, xi v2, xi (m6 59 (v2 * 120))] m6 (fun m11 => K_X10_enterAll_4 G l (d + 1) P (v1 + 1) (v2 + 1) m11)))))))) : K_X10_enterAll_4 G l (d + 1) P v1 v2 μ := by
  unfold K_X10_enterAll_4
  refine xr_iload_n dX10_enterAll_4 rfl ?_
  refine xr_bipush dX10_enterAll_5 (by decide) ?_
  obtain ⟨q1, hT2, hF3⟩ := h
  refine xr_icmp_ge (tgt := 41) dX10_enterAll_7 (by decide) q1 (by decide) (fun c => ?_) (fun c => ?_)
  · have h := hT2 c
    refine xr_iload_n dX10_enterAll_41 rfl ?_
    obtain ⟨q4, h⟩ := h
    exact xr_iret dX10_enterAll_42 rfl ⟨rfl, _, rfl, q4, h⟩
  · have h := hF3 (Int.not_le.mp c)
    refine xr_aload_n dX10_enterAll_10 rfl ?_
    refine xr_iload_n dX10_enterAll_11 rfl ?_
    refine xr_cvI (As := [xi v2]) dX10_enterAll_12 mi_X10_isNext ml_X10_93 se_X10_isNext L_58 rfl rfl rfl (Nat.le_of_ble_eq_true rfl) h (fun r5 m6 hr5 h => ?_)
    obtain ⟨hT7, hF8⟩ := h
    refine xr_if_eq (tgt := 35) dX10_enterAll_15 (by decide) hr5  (fun c => ?_) (fun c => ?_)
    · have h := hT7 c
      refine xr_iinc' (ll' := [some (xr G 58), some (xi v1), some (xi (v2 + 1))]) dX10_enterAll_35 rfl (by decide) rfl rfl ?_
      refine xr_goto (tgt := 4) dX10_enterAll_38 (by decide) ?_
      exact h
    · have h := hF8 c
      refine xr_aload_n dX10_enterAll_18 rfl ?_
      refine xr_iload_n dX10_enterAll_19 rfl ?_
      refine xr_aload_n dX10_enterAll_20 rfl ?_
      refine xr_getR dX10_enterAll_21 fl_X10_9 L_58 rfl ?_
      refine xr_iload_n dX10_enterAll_24 rfl ?_
      refine xr_bipush dX10_enterAll_25 (by decide) ?_
      refine xr_imul dX10_enterAll_27 ?_
      obtain ⟨q9, h⟩ := h
      refine xr_iaload' (v := m6 59 (v2 * 120)) dX10_enterAll_28 L_59 rfl (by decide) q9 rfl ?_
      refine xr_cvV (As := [xi v2, xi (m6 59 (v2 * 120))]) dX10_enterAll_29 mi_X10_enterWord ml_X10_96 se_X10_enterWord L_58 rfl rfl rfl (Nat.le_of_ble_eq_true rfl) h (fun m11 h => ?_)
      refine xr_iinc' (ll' := [some (xr G 58), some (xi (v1 + 1)), some (xi v2)]) dX10_enterAll_32 rfl (by decide) rfl rfl ?_
      refine xr_iinc' (ll' := [some (xr G 58), some (xi (v1 + 1)), some (xi (v2 + 1))]) dX10_enterAll_35 rfl (by decide) rfl rfl ?_
      refine xr_goto (tgt := 4) dX10_enterAll_38 (by decide) ?_
      exact h
theorem dX10_enterWord_0 : decode cX10_enterWord 0 = .ok (.iconst 0, 1) := by decide +kernel
theorem dX10_enterWord_1 : decode cX10_enterWord 1 = .ok (.istore_n 3, 1) := by decide +kernel
theorem dX10_enterWord_2 : decode cX10_enterWord 2 = .ok (.iload_n 3, 1) := by decide +kernel
theorem dX10_enterWord_3 : decode cX10_enterWord 3 = .ok (.aload_n 0, 1) := by decide +kernel
theorem dX10_enterWord_4 : decode cX10_enterWord 4 = .ok (.getfield 35, 3) := by decide +kernel
theorem dX10_enterWord_7 : decode cX10_enterWord 7 = .ok (.getfield 69, 3) := by decide +kernel
theorem dX10_enterWord_10 : decode cX10_enterWord 10 = .ok (.iload_n 1, 1) := by decide +kernel
theorem dX10_enterWord_11 : decode cX10_enterWord 11 = .ok (.iaload, 1) := by decide +kernel
theorem dX10_enterWord_12 : decode cX10_enterWord 12 = .ok (.if_icmp .ge 40, 3) := by decide +kernel
theorem dX10_enterWord_15 : decode cX10_enterWord 15 = .ok (.aload_n 0, 1) := by decide +kernel
theorem dX10_enterWord_16 : decode cX10_enterWord 16 = .ok (.getfield 35, 3) := by decide +kernel
theorem dX10_enterWord_19 : decode cX10_enterWord 19 = .ok (.getfield 72, 3) := by decide +kernel
theorem dX10_enterWord_22 : decode cX10_enterWord 22 = .ok (.aload_n 0, 1) := by decide +kernel
theorem dX10_enterWord_23 : decode cX10_enterWord 23 = .ok (.getfield 35, 3) := by decide +kernel
theorem dX10_enterWord_26 : decode cX10_enterWord 26 = .ok (.iload_n 1, 1) := by decide +kernel
theorem dX10_enterWord_27 : decode cX10_enterWord 27 = .ok (.iload_n 3, 1) := by decide +kernel
theorem dX10_enterWord_28 : decode cX10_enterWord 28 = .ok (.invokevirtual 75, 3) := by decide +kernel
theorem dX10_enterWord_31 : decode cX10_enterWord 31 = .ok (.aload_n 0, 1) := by decide +kernel
theorem dX10_enterWord_32 : decode cX10_enterWord 32 = .ok (.getfield 27, 3) := by decide +kernel
theorem dX10_enterWord_35 : decode cX10_enterWord 35 = .ok (.iload_n 2, 1) := by decide +kernel
theorem dX10_enterWord_36 : decode cX10_enterWord 36 = .ok (.iload_n 3, 1) := by decide +kernel
theorem dX10_enterWord_37 : decode cX10_enterWord 37 = .ok (.invokevirtual 78, 3) := by decide +kernel
theorem dX10_enterWord_40 : decode cX10_enterWord 40 = .ok (.bipush 97, 2) := by decide +kernel
theorem dX10_enterWord_42 : decode cX10_enterWord 42 = .ok (.isub, 1) := by decide +kernel
theorem dX10_enterWord_43 : decode cX10_enterWord 43 = .ok (.iconst 1, 1) := by decide +kernel
theorem dX10_enterWord_44 : decode cX10_enterWord 44 = .ok (.iadd, 1) := by decide +kernel
theorem dX10_enterWord_45 : decode cX10_enterWord 45 = .ok (.iastore, 1) := by decide +kernel
theorem dX10_enterWord_46 : decode cX10_enterWord 46 = .ok (.iinc 3 1, 3) := by decide +kernel
theorem dX10_enterWord_49 : decode cX10_enterWord 49 = .ok (.goto (-47), 3) := by decide +kernel
theorem dX10_enterWord_52 : decode cX10_enterWord 52 = .ok (.return_, 1) := by decide +kernel
def K_X10_enterWord_2 (G : xG) (l : Launch) (d : Nat) (P : xMem → Prop) (v1 v2 v3 : Int) (μ : xMem) : Prop := RR G l d 0 0 false mX10_enterWord (qV P) 2 [some (xr G 58), some (xi v1), some (xi v2), some (xi v3)] [] LAY μ 0 0
set_option maxRecDepth 20000 in
theorem E_X10_enterWord {G : xG} {l : Launch} {d : Nat} {P : xMem → Prop} {v1 v2 : Int} {μ : xMem} (h : K_X10_enterWord_2 G l (d + 1) P v1 v2 0 μ) : CV G l (d + 1) mX10_enterWord [xr G 58, xi v1, xi v2] μ P := by
  refine CC.ofRR (ll := [some (xr G 58), some (xi v1), some (xi v2), none]) (by decide +kernel) (Nat.le_of_ble_eq_true rfl) rfl (fun h => by cases h) ?_
  refine xr_iconst dX10_enterWord_0 ?_
  refine xr_istore_n' (ll' := [some (xr G 58), some (xi v1), some (xi v2), some (xi 0)]) dX10_enterWord_1 (by decide) rfl rfl ?_
  exact h
set_option maxRecDepth 20000 in
theorem B_X10_enterWord_2 {G : xG} {l : Launch} {d : Nat} {P : xMem → Prop} {v1 v2 v3 : Int} {μ : xMem} (h : ((0 ≤ v1 ∧ v1 < 16) ∧ (iR v3 ∧ iR (μ 49 v1) ∧ ((μ 49 v1) ≤ v3 → P μ) ∧ (v3 < (μ 49 v1) → CI G l d mX2_cellOf [xr G 46, xi v1, xi v3] μ (fun r6 m7 => CI G l d mX3_letterAt [xr G 3, xi v2, xi v3] m7 (fun r8 m9 => ((0 ≤ r6 ∧ r6 < 81) ∧ K_X10_enterWord_2 G l (d + 1) P v1 v2 (v3 + 1) (st2 m9 52 r6 ((r8 - 97) + 1))))))))) : K_X10_enterWord_2 G l (d + 1) P v1 v2 v3 μ := by
  unfold K_X10_enterWord_2
  refine xr_iload_n dX10_enterWord_2 rfl ?_
  refine xr_aload_n dX10_enterWord_3 rfl ?_
  refine xr_getR dX10_enterWord_4 fl_X10_35 L_58 rfl ?_
  refine xr_getR dX10_enterWord_7 fl_X10_69 L_46 rfl ?_
  refine xr_iload_n dX10_enterWord_10 rfl ?_
  obtain ⟨q1, h⟩ := h
  refine xr_iaload' (v := μ 49 v1) dX10_enterWord_11 L_49 rfl (by decide) q1 rfl ?_
  obtain ⟨q2, q3, hT4, hF5⟩ := h
  refine xr_icmp_ge (tgt := 52) dX10_enterWord_12 (by decide) q2 q3 (fun c => ?_) (fun c => ?_)
  · have h := hT4 c
    exact xr_ret dX10_enterWord_52 rfl ⟨rfl, rfl, h⟩
  · have h := hF5 (Int.not_le.mp c)
    refine xr_aload_n dX10_enterWord_15 rfl ?_
    refine xr_getR dX10_enterWord_16 fl_X10_35 L_58 rfl ?_
    refine xr_getR dX10_enterWord_19 fl_X10_72 L_46 rfl ?_
    refine xr_aload_n dX10_enterWord_22 rfl ?_
    refine xr_getR dX10_enterWord_23 fl_X10_35 L_58 rfl ?_
    refine xr_iload_n dX10_enterWord_26 rfl ?_
    refine xr_iload_n dX10_enterWord_27 rfl ?_
    refine xr_cvI (As := [xi v1, xi v3]) dX10_enterWord_28 mi_X2_cellOf ml_X10_75 se_X2_cellOf L_46 rfl rfl rfl (Nat.le_of_ble_eq_true rfl) h (fun r6 m7 hr6 h => ?_)
    refine xr_aload_n dX10_enterWord_31 rfl ?_
    refine xr_getR dX10_enterWord_32 fl_X10_27 L_58 rfl ?_
    refine xr_iload_n dX10_enterWord_35 rfl ?_
    refine xr_iload_n dX10_enterWord_36 rfl ?_
    refine xr_cvI (As := [xi v2, xi v3]) dX10_enterWord_37 mi_X3_letterAt ml_X10_78 se_X3_letterAt L_3 rfl rfl rfl (Nat.le_of_ble_eq_true rfl) h (fun r8 m9 hr8 h => ?_)
    refine xr_bipush dX10_enterWord_40 (by decide) ?_
    refine xr_isub dX10_enterWord_42 ?_
    refine xr_iconst dX10_enterWord_43 ?_
    refine xr_iadd dX10_enterWord_44 ?_
    obtain ⟨q10, h⟩ := h
    refine xr_iastore dX10_enterWord_45 L_52 rfl (by decide) q10 ?_
    refine xr_iinc' (ll' := [some (xr G 58), some (xi v1), some (xi v2), some (xi (v3 + 1))]) dX10_enterWord_46 rfl (by decide) rfl rfl ?_
    refine xr_goto (tgt := 2) dX10_enterWord_49 (by decide) ?_
    exact h
theorem dX10_fillAll_0 : decode cX10_fillAll 0 = .ok (.aload_n 0, 1) := by decide +kernel
theorem dX10_fillAll_1 : decode cX10_fillAll 1 = .ok (.getfield 35, 3) := by decide +kernel
theorem dX10_fillAll_4 : decode cX10_fillAll 4 = .ok (.getfield 100, 3) := by decide +kernel
theorem dX10_fillAll_7 : decode cX10_fillAll 7 = .ok (.ifCond .ne 5, 3) := by decide +kernel
theorem dX10_fillAll_10 : decode cX10_fillAll 10 = .ok (.iconst 0, 1) := by decide +kernel
theorem dX10_fillAll_11 : decode cX10_fillAll 11 = .ok (.ireturn, 1) := by decide +kernel
theorem dX10_fillAll_12 : decode cX10_fillAll 12 = .ok (.aload_n 0, 1) := by decide +kernel
theorem dX10_fillAll_13 : decode cX10_fillAll 13 = .ok (.iconst 0, 1) := by decide +kernel
theorem dX10_fillAll_14 : decode cX10_fillAll 14 = .ok (.putfield 104, 3) := by decide +kernel
theorem dX10_fillAll_17 : decode cX10_fillAll 17 = .ok (.aload_n 0, 1) := by decide +kernel
theorem dX10_fillAll_18 : decode cX10_fillAll 18 = .ok (.iconst 0, 1) := by decide +kernel
theorem dX10_fillAll_19 : decode cX10_fillAll 19 = .ok (.putfield 107, 3) := by decide +kernel
theorem dX10_fillAll_22 : decode cX10_fillAll 22 = .ok (.aload_n 0, 1) := by decide +kernel
theorem dX10_fillAll_23 : decode cX10_fillAll 23 = .ok (.getfield 18, 3) := by decide +kernel
theorem dX10_fillAll_26 : decode cX10_fillAll 26 = .ok (.iconst (-1), 1) := by decide +kernel
theorem dX10_fillAll_27 : decode cX10_fillAll 27 = .ok (.invokestatic 39, 3) := by decide +kernel
theorem dX10_fillAll_30 : decode cX10_fillAll 30 = .ok (.aload_n 0, 1) := by decide +kernel
theorem dX10_fillAll_31 : decode cX10_fillAll 31 = .ok (.iconst 0, 1) := by decide +kernel
theorem dX10_fillAll_32 : decode cX10_fillAll 32 = .ok (.invokevirtual 110, 3) := by decide +kernel
theorem dX10_fillAll_35 : decode cX10_fillAll 35 = .ok (.aload_n 0, 1) := by decide +kernel
theorem dX10_fillAll_36 : decode cX10_fillAll 36 = .ok (.getfield 107, 3) := by decide +kernel
theorem dX10_fillAll_39 : decode cX10_fillAll 39 = .ok (.sipush 20000, 3) := by decide +kernel
theorem dX10_fillAll_42 : decode cX10_fillAll 42 = .ok (.if_icmp .le 6, 3) := by decide +kernel
theorem dX10_fillAll_45 : decode cX10_fillAll 45 = .ok (.bipush (-2), 2) := by decide +kernel
theorem dX10_fillAll_47 : decode cX10_fillAll 47 = .ok (.ireturn, 1) := by decide +kernel
theorem dX10_fillAll_48 : decode cX10_fillAll 48 = .ok (.aload_n 0, 1) := by decide +kernel
theorem dX10_fillAll_49 : decode cX10_fillAll 49 = .ok (.getfield 104, 3) := by decide +kernel
theorem dX10_fillAll_52 : decode cX10_fillAll 52 = .ok (.ifCond .le 18, 3) := by decide +kernel
theorem dX10_fillAll_55 : decode cX10_fillAll 55 = .ok (.aload_n 0, 1) := by decide +kernel
theorem dX10_fillAll_56 : decode cX10_fillAll 56 = .ok (.getfield 21, 3) := by decide +kernel
theorem dX10_fillAll_59 : decode cX10_fillAll 59 = .ok (.iconst 0, 1) := by decide +kernel
theorem dX10_fillAll_60 : decode cX10_fillAll 60 = .ok (.aload_n 0, 1) := by decide +kernel
theorem dX10_fillAll_61 : decode cX10_fillAll 61 = .ok (.getfield 24, 3) := by decide +kernel
theorem dX10_fillAll_64 : decode cX10_fillAll 64 = .ok (.iconst 0, 1) := by decide +kernel
theorem dX10_fillAll_65 : decode cX10_fillAll 65 = .ok (.bipush 16, 2) := by decide +kernel
theorem dX10_fillAll_67 : decode cX10_fillAll 67 = .ok (.invokestatic 113, 3) := by decide +kernel
theorem dX10_fillAll_70 : decode cX10_fillAll 70 = .ok (.aload_n 0, 1) := by decide +kernel
theorem dX10_fillAll_71 : decode cX10_fillAll 71 = .ok (.getfield 104, 3) := by decide +kernel
theorem dX10_fillAll_74 : decode cX10_fillAll 74 = .ok (.ireturn, 1) := by decide +kernel
set_option maxRecDepth 20000 in
theorem E_X10_fillAll {G : xG} {l : Launch} {d : Nat} {P : Int → xMem → Prop} {μ : xMem} (h : (iR (μ 46 9) ∧ ((μ 46 9) ≠ 0 → CV G l d mJ7_fill_53178 [xr G 61, xi (-1)] (st2 (st2 μ 58 8 0) 58 9 0) (fun m5 => CV G l d mX10_fillFrom [xr G 58, xi 0] m5 (fun m7 => (iR (m7 58 9) ∧ ((m7 58 9) ≤ 20000 → (iR (m7 58 8) ∧ ((m7 58 8) ≤ 0 → P (m7 58 8) m7) ∧ (0 < (m7 58 8) → P (m7 58 8) (cpy m7 62 0 63 0 16)))) ∧ (20000 < (m7 58 9) → P (-2) m7))))) ∧ ((μ 46 9) = 0 → P 0 μ))) : CI G l (d + 1) mX10_fillAll [xr G 58] μ P := by
  refine CC.ofRR (ll := [some (xr G 58)]) (by decide +kernel) (Nat.le_of_ble_eq_true rfl) rfl (fun h => by cases h) ?_
  refine xr_aload_n dX10_fillAll_0 rfl ?_
  refine xr_getR dX10_fillAll_1 fl_X10_35 L_58 rfl ?_
  refine xr_getI' (v := μ 46 9) dX10_fillAll_4 fl_X10_100 L_46 rfl rfl rfl ?_
  obtain ⟨q1, hT2, hF3⟩ := h
  refine xr_if_ne (tgt := 12) dX10_fillAll_7 (by decide) q1  (fun c => ?_) (fun c => ?_)
  · have h := hT2 c
    refine xr_aload_n dX10_fillAll_12 rfl ?_
    refine xr_iconst dX10_fillAll_13 ?_
    refine xr_putI dX10_fillAll_14 fp_X10_104 L_58 rfl rfl ⟨rfl, rfl⟩ ?_
    refine xr_aload_n dX10_fillAll_17 rfl ?_
    refine xr_iconst dX10_fillAll_18 ?_
    refine xr_putI dX10_fillAll_19 fp_X10_107 L_58 rfl rfl ⟨rfl, rfl⟩ ?_
    refine xr_aload_n dX10_fillAll_22 rfl ?_
    refine xr_getR dX10_fillAll_23 fl_X10_18 L_58 rfl ?_
    refine xr_iconst dX10_fillAll_26 ?_
    refine xr_csV (As := [xr G 61, xi (-1)]) dX10_fillAll_27 ms_J7_fill_53178 ml_X10_39 rfl rfl (Nat.le_of_ble_eq_true rfl) h (fun m5 h => ?_)
    refine xr_aload_n dX10_fillAll_30 rfl ?_
    refine xr_iconst dX10_fillAll_31 ?_
    refine xr_cvV (As := [xi 0]) dX10_fillAll_32 mi_X10_fillFrom ml_X10_110 se_X10_fillFrom L_58 rfl rfl rfl (Nat.le_of_ble_eq_true rfl) h (fun m7 h => ?_)
    refine xr_aload_n dX10_fillAll_35 rfl ?_
    refine xr_getI' (v := m7 58 9) dX10_fillAll_36 fl_X10_107 L_58 rfl rfl rfl ?_
    refine xr_sipush dX10_fillAll_39 (by decide) ?_
    obtain ⟨q8, hT9, hF10⟩ := h
    refine xr_icmp_le (tgt := 48) dX10_fillAll_42 (by decide) q8 (by decide) (fun c => ?_) (fun c => ?_)
    · have h := hT9 c
      refine xr_aload_n dX10_fillAll_48 rfl ?_
      refine xr_getI' (v := m7 58 8) dX10_fillAll_49 fl_X10_104 L_58 rfl rfl rfl ?_
      obtain ⟨q11, hT12, hF13⟩ := h
      refine xr_if_le (tgt := 70) dX10_fillAll_52 (by decide) q11  (fun c => ?_) (fun c => ?_)
      · have h := hT12 c
        refine xr_aload_n dX10_fillAll_70 rfl ?_
        refine xr_getI' (v := m7 58 8) dX10_fillAll_71 fl_X10_104 L_58 rfl rfl rfl ?_
        exact xr_iret dX10_fillAll_74 rfl ⟨rfl, _, rfl, q11, h⟩
      · have h := hF13 (Int.not_le.mp c)
        refine xr_aload_n dX10_fillAll_55 rfl ?_
        refine xr_getR dX10_fillAll_56 fl_X10_21 L_58 rfl ?_
        refine xr_iconst dX10_fillAll_59 ?_
        refine xr_aload_n dX10_fillAll_60 rfl ?_
        refine xr_getR dX10_fillAll_61 fl_X10_24 L_58 rfl ?_
        refine xr_iconst dX10_fillAll_64 ?_
        refine xr_bipush dX10_fillAll_65 (by decide) ?_
        refine xr_copyI dX10_fillAll_67 ml_X10_113 w_acn w_acs w_aci (Nat.le_add_left _ _) (Nat.le_of_ble_eq_true rfl) L_62 L_63 (by decide) (by decide) (by decide) (by decide) (by decide) (by decide) (by decide) ?_ rfl
        refine xr_aload_n dX10_fillAll_70 rfl ?_
        refine xr_getI' (v := m7 58 8) dX10_fillAll_71 fl_X10_104 L_58 rfl rfl (by simp [st2, cpy]) ?_
        exact xr_iret dX10_fillAll_74 rfl ⟨rfl, _, rfl, q11, h⟩
    · have h := hF10 (Int.not_le.mp c)
      refine xr_bipush dX10_fillAll_45 (by decide) ?_
      exact xr_iret dX10_fillAll_47 rfl ⟨rfl, _, rfl, (by decide), h⟩
  · have h := hF3 c
    refine xr_iconst dX10_fillAll_10 ?_
    exact xr_iret dX10_fillAll_11 rfl ⟨rfl, _, rfl, (by decide), h⟩
theorem dX10_fillFrom_0 : decode cX10_fillFrom 0 = .ok (.iload_n 1, 1) := by decide +kernel
theorem dX10_fillFrom_1 : decode cX10_fillFrom 1 = .ok (.bipush 16, 2) := by decide +kernel
theorem dX10_fillFrom_3 : decode cX10_fillFrom 3 = .ok (.if_icmp .lt 8, 3) := by decide +kernel
theorem dX10_fillFrom_6 : decode cX10_fillFrom 6 = .ok (.aload_n 0, 1) := by decide +kernel
theorem dX10_fillFrom_7 : decode cX10_fillFrom 7 = .ok (.invokevirtual 119, 3) := by decide +kernel
theorem dX10_fillFrom_10 : decode cX10_fillFrom 10 = .ok (.return_, 1) := by decide +kernel
theorem dX10_fillFrom_11 : decode cX10_fillFrom 11 = .ok (.aload_n 0, 1) := by decide +kernel
theorem dX10_fillFrom_12 : decode cX10_fillFrom 12 = .ok (.getfield 35, 3) := by decide +kernel
theorem dX10_fillFrom_15 : decode cX10_fillFrom 15 = .ok (.iload_n 1, 1) := by decide +kernel
theorem dX10_fillFrom_16 : decode cX10_fillFrom 16 = .ok (.invokevirtual 53, 3) := by decide +kernel
theorem dX10_fillFrom_19 : decode cX10_fillFrom 19 = .ok (.ifCond .ne 11, 3) := by decide +kernel
theorem dX10_fillFrom_22 : decode cX10_fillFrom 22 = .ok (.aload_n 0, 1) := by decide +kernel
theorem dX10_fillFrom_23 : decode cX10_fillFrom 23 = .ok (.iload_n 1, 1) := by decide +kernel
theorem dX10_fillFrom_24 : decode cX10_fillFrom 24 = .ok (.iconst 1, 1) := by decide +kernel
theorem dX10_fillFrom_25 : decode cX10_fillFrom 25 = .ok (.iadd, 1) := by decide +kernel
theorem dX10_fillFrom_26 : decode cX10_fillFrom 26 = .ok (.invokevirtual 110, 3) := by decide +kernel
theorem dX10_fillFrom_29 : decode cX10_fillFrom 29 = .ok (.return_, 1) := by decide +kernel
theorem dX10_fillFrom_30 : decode cX10_fillFrom 30 = .ok (.iconst 0, 1) := by decide +kernel
theorem dX10_fillFrom_31 : decode cX10_fillFrom 31 = .ok (.istore_n 2, 1) := by decide +kernel
theorem dX10_fillFrom_32 : decode cX10_fillFrom 32 = .ok (.iload_n 2, 1) := by decide +kernel
theorem dX10_fillFrom_33 : decode cX10_fillFrom 33 = .ok (.aload_n 0, 1) := by decide +kernel
theorem dX10_fillFrom_34 : decode cX10_fillFrom 34 = .ok (.getfield 31, 3) := by decide +kernel
theorem dX10_fillFrom_37 : decode cX10_fillFrom 37 = .ok (.getfield 58, 3) := by decide +kernel
theorem dX10_fillFrom_40 : decode cX10_fillFrom 40 = .ok (.iload_n 1, 1) := by decide +kernel
theorem dX10_fillFrom_41 : decode cX10_fillFrom 41 = .ok (.iaload, 1) := by decide +kernel
theorem dX10_fillFrom_42 : decode cX10_fillFrom 42 = .ok (.if_icmp .ge 79, 3) := by decide +kernel
theorem dX10_fillFrom_45 : decode cX10_fillFrom 45 = .ok (.aload_n 0, 1) := by decide +kernel
theorem dX10_fillFrom_46 : decode cX10_fillFrom 46 = .ok (.getfield 104, 3) := by decide +kernel
theorem dX10_fillFrom_49 : decode cX10_fillFrom 49 = .ok (.sipush 1000, 3) := by decide +kernel
theorem dX10_fillFrom_52 : decode cX10_fillFrom 52 = .ok (.if_icmp .ge 69, 3) := by decide +kernel
theorem dX10_fillFrom_55 : decode cX10_fillFrom 55 = .ok (.aload_n 0, 1) := by decide +kernel
theorem dX10_fillFrom_56 : decode cX10_fillFrom 56 = .ok (.getfield 107, 3) := by decide +kernel
theorem dX10_fillFrom_59 : decode cX10_fillFrom 59 = .ok (.sipush 20000, 3) := by decide +kernel
theorem dX10_fillFrom_62 : decode cX10_fillFrom 62 = .ok (.if_icmp .gt 59, 3) := by decide +kernel
theorem dX10_fillFrom_65 : decode cX10_fillFrom 65 = .ok (.aload_n 0, 1) := by decide +kernel
theorem dX10_fillFrom_66 : decode cX10_fillFrom 66 = .ok (.dup, 1) := by decide +kernel
theorem dX10_fillFrom_67 : decode cX10_fillFrom 67 = .ok (.getfield 107, 3) := by decide +kernel
theorem dX10_fillFrom_70 : decode cX10_fillFrom 70 = .ok (.iconst 1, 1) := by decide +kernel
theorem dX10_fillFrom_71 : decode cX10_fillFrom 71 = .ok (.iadd, 1) := by decide +kernel
theorem dX10_fillFrom_72 : decode cX10_fillFrom 72 = .ok (.putfield 107, 3) := by decide +kernel
theorem dX10_fillFrom_75 : decode cX10_fillFrom 75 = .ok (.aload_n 0, 1) := by decide +kernel
theorem dX10_fillFrom_76 : decode cX10_fillFrom 76 = .ok (.getfield 18, 3) := by decide +kernel
theorem dX10_fillFrom_79 : decode cX10_fillFrom 79 = .ok (.iload_n 1, 1) := by decide +kernel
theorem dX10_fillFrom_80 : decode cX10_fillFrom 80 = .ok (.aload_n 0, 1) := by decide +kernel
theorem dX10_fillFrom_81 : decode cX10_fillFrom 81 = .ok (.getfield 31, 3) := by decide +kernel
theorem dX10_fillFrom_84 : decode cX10_fillFrom 84 = .ok (.iload_n 1, 1) := by decide +kernel
theorem dX10_fillFrom_85 : decode cX10_fillFrom 85 = .ok (.iload_n 2, 1) := by decide +kernel
theorem dX10_fillFrom_86 : decode cX10_fillFrom 86 = .ok (.invokevirtual 61, 3) := by decide +kernel
theorem dX10_fillFrom_89 : decode cX10_fillFrom 89 = .ok (.iastore, 1) := by decide +kernel
theorem dX10_fillFrom_90 : decode cX10_fillFrom 90 = .ok (.aload_n 0, 1) := by decide +kernel
theorem dX10_fillFrom_91 : decode cX10_fillFrom 91 = .ok (.getfield 107, 3) := by decide +kernel
theorem dX10_fillFrom_94 : decode cX10_fillFrom 94 = .ok (.sipush 20000, 3) := by decide +kernel
theorem dX10_fillFrom_97 : decode cX10_fillFrom 97 = .ok (.if_icmp .gt 18, 3) := by decide +kernel
theorem dX10_fillFrom_100 : decode cX10_fillFrom 100 = .ok (.aload_n 0, 1) := by decide +kernel
theorem dX10_fillFrom_101 : decode cX10_fillFrom 101 = .ok (.iload_n 1, 1) := by decide +kernel
theorem dX10_fillFrom_102 : decode cX10_fillFrom 102 = .ok (.invokevirtual 122, 3) := by decide +kernel
theorem dX10_fillFrom_105 : decode cX10_fillFrom 105 = .ok (.ifCond .eq 10, 3) := by decide +kernel
theorem dX10_fillFrom_108 : decode cX10_fillFrom 108 = .ok (.aload_n 0, 1) := by decide +kernel
theorem dX10_fillFrom_109 : decode cX10_fillFrom 109 = .ok (.iload_n 1, 1) := by decide +kernel
theorem dX10_fillFrom_110 : decode cX10_fillFrom 110 = .ok (.iconst 1, 1) := by decide +kernel
theorem dX10_fillFrom_111 : decode cX10_fillFrom 111 = .ok (.iadd, 1) := by decide +kernel
theorem dX10_fillFrom_112 : decode cX10_fillFrom 112 = .ok (.invokevirtual 110, 3) := by decide +kernel
theorem dX10_fillFrom_115 : decode cX10_fillFrom 115 = .ok (.iinc 2 1, 3) := by decide +kernel
theorem dX10_fillFrom_118 : decode cX10_fillFrom 118 = .ok (.goto (-86), 3) := by decide +kernel
theorem dX10_fillFrom_121 : decode cX10_fillFrom 121 = .ok (.return_, 1) := by decide +kernel
def K_X10_fillFrom_32 (G : xG) (l : Launch) (d : Nat) (P : xMem → Prop) (v1 v2 : Int) (μ : xMem) : Prop := RR G l d 0 0 false mX10_fillFrom (qV P) 32 [some (xr G 58), some (xi v1), some (xi v2)] [] LAY μ 0 0
set_option maxRecDepth 20000 in
theorem E_X10_fillFrom {G : xG} {l : Launch} {d : Nat} {P : xMem → Prop} {v1 : Int} {μ : xMem} (h : (iR v1 ∧ (v1 < 16 → CI G l d mX2_hasLight [xr G 46, xi v1] μ (fun r4 m5 => ((r4 ≠ 0 → K_X10_fillFrom_32 G l (d + 1) P v1 0 m5) ∧ (r4 = 0 → CV G l d mX10_fillFrom [xr G 58, xi (v1 + 1)] m5 (fun m9 => P m9))))) ∧ (16 ≤ v1 → CV G l d mX10_noteWay [xr G 58] μ (fun m11 => P m11)))) : CV G l (d + 1) mX10_fillFrom [xr G 58, xi v1] μ P := by
  refine CC.ofRR (ll := [some (xr G 58), some (xi v1), none]) (by decide +kernel) (Nat.le_of_ble_eq_true rfl) rfl (fun h => by cases h) ?_
  refine xr_iload_n dX10_fillFrom_0 rfl ?_
  refine xr_bipush dX10_fillFrom_1 (by decide) ?_
  obtain ⟨q1, hT2, hF3⟩ := h
  refine xr_icmp_lt (tgt := 11) dX10_fillFrom_3 (by decide) q1 (by decide) (fun c => ?_) (fun c => ?_)
  · have h := hT2 c
    refine xr_aload_n dX10_fillFrom_11 rfl ?_
    refine xr_getR dX10_fillFrom_12 fl_X10_35 L_58 rfl ?_
    refine xr_iload_n dX10_fillFrom_15 rfl ?_
    refine xr_cvI (As := [xi v1]) dX10_fillFrom_16 mi_X2_hasLight ml_X10_53 se_X2_hasLight L_46 rfl rfl rfl (Nat.le_of_ble_eq_true rfl) h (fun r4 m5 hr4 h => ?_)
    obtain ⟨hT6, hF7⟩ := h
    refine xr_if_ne (tgt := 30) dX10_fillFrom_19 (by decide) hr4  (fun c => ?_) (fun c => ?_)
    · have h := hT6 c
      refine xr_iconst dX10_fillFrom_30 ?_
      refine xr_istore_n' (ll' := [some (xr G 58), some (xi v1), some (xi 0)]) dX10_fillFrom_31 (by decide) rfl rfl ?_
      exact h
    · have h := hF7 c
      refine xr_aload_n dX10_fillFrom_22 rfl ?_
      refine xr_iload_n dX10_fillFrom_23 rfl ?_
      refine xr_iconst dX10_fillFrom_24 ?_
      refine xr_iadd dX10_fillFrom_25 ?_
      refine xr_cvV (As := [xi (v1 + 1)]) dX10_fillFrom_26 mi_X10_fillFrom ml_X10_110 se_X10_fillFrom L_58 rfl rfl rfl (Nat.le_of_ble_eq_true rfl) h (fun m9 h => ?_)
      exact xr_ret dX10_fillFrom_29 rfl ⟨rfl, rfl, h⟩
  · have h := hF3 (Int.not_lt.mp c)
    refine xr_aload_n dX10_fillFrom_6 rfl ?_
    refine xr_cvV (As := []) dX10_fillFrom_7 mi_X10_noteWay ml_X10_119 se_X10_noteWay L_58 rfl rfl rfl (Nat.le_of_ble_eq_true rfl) h (fun m11 h => ?_)
    exact xr_ret dX10_fillFrom_10 rfl ⟨rfl, rfl, h⟩
set_option maxRecDepth 20000 in
theorem B_X10_fillFrom_32 {G : xG} {l : Launch} {d : Nat} {P : xMem → Prop} {v1 v2 : Int} {μ : xMem} (h : ((0 ≤ v1 ∧ v1 < 16) ∧ (iR v2 ∧ iR (μ 42 v1) ∧ ((μ 42 v1) ≤ v2 → P μ) ∧ (v2 < (μ 42 v1) → (iR (μ 58 8) ∧ (1000 ≤ (μ 58 8) → P μ) ∧ ((μ 58 8) < 1000 → (iR (μ 58 9) ∧ (20000 < (μ 58 9) → P μ) ∧ ((μ 58 9) ≤ 20000 → CI G l d mX6_wordAt [xr G 40, xi v1, xi v2] (st2 μ 58 9 ((μ 58 9) + 1)) (fun r12 m13 => (iR (m13 58 9) ∧ (20000 < (m13 58 9) → K_X10_fillFrom_32 G l (d + 1) P v1 (v2 + 1) (st2 m13 61 v1 r12)) ∧ ((m13 58 9) ≤ 20000 → CI G l d mX10_fits [xr G 58, xi v1] (st2 m13 61 v1 r12) (fun r17 m18 => ((r17 = 0 → K_X10_fillFrom_32 G l (d + 1) P v1 (v2 + 1) m18) ∧ (r17 ≠ 0 → CV G l d mX10_fillFrom [xr G 58, xi (v1 + 1)] m18 (fun m22 => K_X10_fillFrom_32 G l (d + 1) P v1 (v2 + 1) m22))))))))))))))) : K_X10_fillFrom_32 G l (d + 1) P v1 v2 μ := by
  unfold K_X10_fillFrom_32
  refine xr_iload_n dX10_fillFrom_32 rfl ?_
  refine xr_aload_n dX10_fillFrom_33 rfl ?_
  refine xr_getR dX10_fillFrom_34 fl_X10_31 L_58 rfl ?_
  refine xr_getR dX10_fillFrom_37 fl_X10_58 L_40 rfl ?_
  refine xr_iload_n dX10_fillFrom_40 rfl ?_
  obtain ⟨q1, h⟩ := h
  refine xr_iaload' (v := μ 42 v1) dX10_fillFrom_41 L_42 rfl (by decide) q1 rfl ?_
  obtain ⟨q2, q3, hT4, hF5⟩ := h
  refine xr_icmp_ge (tgt := 121) dX10_fillFrom_42 (by decide) q2 q3 (fun c => ?_) (fun c => ?_)
  · have h := hT4 c
    exact xr_ret dX10_fillFrom_121 rfl ⟨rfl, rfl, h⟩
  · have h := hF5 (Int.not_le.mp c)
    refine xr_aload_n dX10_fillFrom_45 rfl ?_
    refine xr_getI' (v := μ 58 8) dX10_fillFrom_46 fl_X10_104 L_58 rfl rfl rfl ?_
    refine xr_sipush dX10_fillFrom_49 (by decide) ?_
    obtain ⟨q6, hT7, hF8⟩ := h
    refine xr_icmp_ge (tgt := 121) dX10_fillFrom_52 (by decide) q6 (by decide) (fun c => ?_) (fun c => ?_)
    · have h := hT7 c
      exact xr_ret dX10_fillFrom_121 rfl ⟨rfl, rfl, h⟩
    · have h := hF8 (Int.not_le.mp c)
      refine xr_aload_n dX10_fillFrom_55 rfl ?_
      refine xr_getI' (v := μ 58 9) dX10_fillFrom_56 fl_X10_107 L_58 rfl rfl rfl ?_
      refine xr_sipush dX10_fillFrom_59 (by decide) ?_
      obtain ⟨q9, hT10, hF11⟩ := h
      refine xr_icmp_gt (tgt := 121) dX10_fillFrom_62 (by decide) q9 (by decide) (fun c => ?_) (fun c => ?_)
      · have h := hT10 c
        exact xr_ret dX10_fillFrom_121 rfl ⟨rfl, rfl, h⟩
      · have h := hF11 (Int.not_lt.mp c)
        refine xr_aload_n dX10_fillFrom_65 rfl ?_
        refine xr_dup dX10_fillFrom_66 rfl ?_
        refine xr_getI' (v := μ 58 9) dX10_fillFrom_67 fl_X10_107 L_58 rfl rfl rfl ?_
        refine xr_iconst dX10_fillFrom_70 ?_
        refine xr_iadd dX10_fillFrom_71 ?_
        refine xr_putI dX10_fillFrom_72 fp_X10_107 L_58 rfl rfl ⟨rfl, rfl⟩ ?_
        refine xr_aload_n dX10_fillFrom_75 rfl ?_
        refine xr_getR dX10_fillFrom_76 fl_X10_18 L_58 rfl ?_
        refine xr_iload_n dX10_fillFrom_79 rfl ?_
        refine xr_aload_n dX10_fillFrom_80 rfl ?_
        refine xr_getR dX10_fillFrom_81 fl_X10_31 L_58 rfl ?_
        refine xr_iload_n dX10_fillFrom_84 rfl ?_
        refine xr_iload_n dX10_fillFrom_85 rfl ?_
        refine xr_cvI (As := [xi v1, xi v2]) dX10_fillFrom_86 mi_X6_wordAt ml_X10_61 se_X6_wordAt L_40 rfl rfl rfl (Nat.le_of_ble_eq_true rfl) h (fun r12 m13 hr12 h => ?_)
        refine xr_iastore dX10_fillFrom_89 L_61 rfl (by decide) q1 ?_
        refine xr_aload_n dX10_fillFrom_90 rfl ?_
        refine xr_getI' (v := m13 58 9) dX10_fillFrom_91 fl_X10_107 L_58 rfl rfl (by simp [st2, cpy]) ?_
        refine xr_sipush dX10_fillFrom_94 (by decide) ?_
        obtain ⟨q14, hT15, hF16⟩ := h
        refine xr_icmp_gt (tgt := 115) dX10_fillFrom_97 (by decide) q14 (by decide) (fun c => ?_) (fun c => ?_)
        · have h := hT15 c
          refine xr_iinc' (ll' := [some (xr G 58), some (xi v1), some (xi (v2 + 1))]) dX10_fillFrom_115 rfl (by decide) rfl rfl ?_
          refine xr_goto (tgt := 32) dX10_fillFrom_118 (by decide) ?_
          exact h
        · have h := hF16 (Int.not_lt.mp c)
          refine xr_aload_n dX10_fillFrom_100 rfl ?_
          refine xr_iload_n dX10_fillFrom_101 rfl ?_
          refine xr_cvI (As := [xi v1]) dX10_fillFrom_102 mi_X10_fits ml_X10_122 se_X10_fits L_58 rfl rfl rfl (Nat.le_of_ble_eq_true rfl) h (fun r17 m18 hr17 h => ?_)
          obtain ⟨hT19, hF20⟩ := h
          refine xr_if_eq (tgt := 115) dX10_fillFrom_105 (by decide) hr17  (fun c => ?_) (fun c => ?_)
          · have h := hT19 c
            refine xr_iinc' (ll' := [some (xr G 58), some (xi v1), some (xi (v2 + 1))]) dX10_fillFrom_115 rfl (by decide) rfl rfl ?_
            refine xr_goto (tgt := 32) dX10_fillFrom_118 (by decide) ?_
            exact h
          · have h := hF20 c
            refine xr_aload_n dX10_fillFrom_108 rfl ?_
            refine xr_iload_n dX10_fillFrom_109 rfl ?_
            refine xr_iconst dX10_fillFrom_110 ?_
            refine xr_iadd dX10_fillFrom_111 ?_
            refine xr_cvV (As := [xi (v1 + 1)]) dX10_fillFrom_112 mi_X10_fillFrom ml_X10_110 se_X10_fillFrom L_58 rfl rfl rfl (Nat.le_of_ble_eq_true rfl) h (fun m22 h => ?_)
            refine xr_iinc' (ll' := [some (xr G 58), some (xi v1), some (xi (v2 + 1))]) dX10_fillFrom_115 rfl (by decide) rfl rfl ?_
            refine xr_goto (tgt := 32) dX10_fillFrom_118 (by decide) ?_
            exact h
theorem dX10_noteWay_0 : decode cX10_noteWay 0 = .ok (.aload_n 0, 1) := by decide +kernel
theorem dX10_noteWay_1 : decode cX10_noteWay 1 = .ok (.getfield 104, 3) := by decide +kernel
theorem dX10_noteWay_4 : decode cX10_noteWay 4 = .ok (.ifCond .ne 18, 3) := by decide +kernel
theorem dX10_noteWay_7 : decode cX10_noteWay 7 = .ok (.aload_n 0, 1) := by decide +kernel
theorem dX10_noteWay_8 : decode cX10_noteWay 8 = .ok (.getfield 18, 3) := by decide +kernel
theorem dX10_noteWay_11 : decode cX10_noteWay 11 = .ok (.iconst 0, 1) := by decide +kernel
theorem dX10_noteWay_12 : decode cX10_noteWay 12 = .ok (.aload_n 0, 1) := by decide +kernel
theorem dX10_noteWay_13 : decode cX10_noteWay 13 = .ok (.getfield 21, 3) := by decide +kernel
theorem dX10_noteWay_16 : decode cX10_noteWay 16 = .ok (.iconst 0, 1) := by decide +kernel
theorem dX10_noteWay_17 : decode cX10_noteWay 17 = .ok (.bipush 16, 2) := by decide +kernel
theorem dX10_noteWay_19 : decode cX10_noteWay 19 = .ok (.invokestatic 113, 3) := by decide +kernel
theorem dX10_noteWay_22 : decode cX10_noteWay 22 = .ok (.aload_n 0, 1) := by decide +kernel
theorem dX10_noteWay_23 : decode cX10_noteWay 23 = .ok (.dup, 1) := by decide +kernel
theorem dX10_noteWay_24 : decode cX10_noteWay 24 = .ok (.getfield 104, 3) := by decide +kernel
theorem dX10_noteWay_27 : decode cX10_noteWay 27 = .ok (.iconst 1, 1) := by decide +kernel
theorem dX10_noteWay_28 : decode cX10_noteWay 28 = .ok (.iadd, 1) := by decide +kernel
theorem dX10_noteWay_29 : decode cX10_noteWay 29 = .ok (.putfield 104, 3) := by decide +kernel
theorem dX10_noteWay_32 : decode cX10_noteWay 32 = .ok (.return_, 1) := by decide +kernel
set_option maxRecDepth 20000 in
theorem E_X10_noteWay {G : xG} {l : Launch} {d : Nat} {P : xMem → Prop} {μ : xMem} (h : (iR (μ 58 8) ∧ ((μ 58 8) ≠ 0 → P (st2 μ 58 8 ((μ 58 8) + 1))) ∧ ((μ 58 8) = 0 → P (st2 (cpy μ 61 0 62 0 16) 58 8 ((μ 58 8) + 1))))) : CV G l (d + 1) mX10_noteWay [xr G 58] μ P := by
  refine CC.ofRR (ll := [some (xr G 58)]) (by decide +kernel) (Nat.le_of_ble_eq_true rfl) rfl (fun h => by cases h) ?_
  refine xr_aload_n dX10_noteWay_0 rfl ?_
  refine xr_getI' (v := μ 58 8) dX10_noteWay_1 fl_X10_104 L_58 rfl rfl rfl ?_
  obtain ⟨q1, hT2, hF3⟩ := h
  refine xr_if_ne (tgt := 22) dX10_noteWay_4 (by decide) q1  (fun c => ?_) (fun c => ?_)
  · have h := hT2 c
    refine xr_aload_n dX10_noteWay_22 rfl ?_
    refine xr_dup dX10_noteWay_23 rfl ?_
    refine xr_getI' (v := μ 58 8) dX10_noteWay_24 fl_X10_104 L_58 rfl rfl rfl ?_
    refine xr_iconst dX10_noteWay_27 ?_
    refine xr_iadd dX10_noteWay_28 ?_
    refine xr_putI dX10_noteWay_29 fp_X10_104 L_58 rfl rfl ⟨rfl, rfl⟩ ?_
    exact xr_ret dX10_noteWay_32 rfl ⟨rfl, rfl, h⟩
  · have h := hF3 c
    refine xr_aload_n dX10_noteWay_7 rfl ?_
    refine xr_getR dX10_noteWay_8 fl_X10_18 L_58 rfl ?_
    refine xr_iconst dX10_noteWay_11 ?_
    refine xr_aload_n dX10_noteWay_12 rfl ?_
    refine xr_getR dX10_noteWay_13 fl_X10_21 L_58 rfl ?_
    refine xr_iconst dX10_noteWay_16 ?_
    refine xr_bipush dX10_noteWay_17 (by decide) ?_
    refine xr_copyI dX10_noteWay_19 ml_X10_113 w_acn w_acs w_aci (Nat.le_add_left _ _) (Nat.le_of_ble_eq_true rfl) L_61 L_62 (by decide) (by decide) (by decide) (by decide) (by decide) (by decide) (by decide) ?_ rfl
    refine xr_aload_n dX10_noteWay_22 rfl ?_
    refine xr_dup dX10_noteWay_23 rfl ?_
    refine xr_getI' (v := μ 58 8) dX10_noteWay_24 fl_X10_104 L_58 rfl rfl (by simp [st2, cpy]) ?_
    refine xr_iconst dX10_noteWay_27 ?_
    refine xr_iadd dX10_noteWay_28 ?_
    refine xr_putI dX10_noteWay_29 fp_X10_104 L_58 rfl rfl ⟨rfl, rfl⟩ ?_
    exact xr_ret dX10_noteWay_32 rfl ⟨rfl, rfl, h⟩
theorem dX10_fits_0 : decode cX10_fits 0 = .ok (.iconst 0, 1) := by decide +kernel
theorem dX10_fits_1 : decode cX10_fits 1 = .ok (.istore_n 2, 1) := by decide +kernel
theorem dX10_fits_2 : decode cX10_fits 2 = .ok (.iload_n 2, 1) := by decide +kernel
theorem dX10_fits_3 : decode cX10_fits 3 = .ok (.iload_n 1, 1) := by decide +kernel
theorem dX10_fits_4 : decode cX10_fits 4 = .ok (.if_icmp .ge 65, 3) := by decide +kernel
theorem dX10_fits_7 : decode cX10_fits 7 = .ok (.aload_n 0, 1) := by decide +kernel
theorem dX10_fits_8 : decode cX10_fits 8 = .ok (.getfield 35, 3) := by decide +kernel
theorem dX10_fits_11 : decode cX10_fits 11 = .ok (.iload_n 1, 1) := by decide +kernel
theorem dX10_fits_12 : decode cX10_fits 12 = .ok (.iload_n 2, 1) := by decide +kernel
theorem dX10_fits_13 : decode cX10_fits 13 = .ok (.invokevirtual 83, 3) := by decide +kernel
theorem dX10_fits_16 : decode cX10_fits 16 = .ok (.istore_n 3, 1) := by decide +kernel
theorem dX10_fits_17 : decode cX10_fits 17 = .ok (.iload_n 3, 1) := by decide +kernel
theorem dX10_fits_18 : decode cX10_fits 18 = .ok (.iconst (-1), 1) := by decide +kernel
theorem dX10_fits_19 : decode cX10_fits 19 = .ok (.if_icmp .eq 44, 3) := by decide +kernel
theorem dX10_fits_22 : decode cX10_fits 22 = .ok (.aload_n 0, 1) := by decide +kernel
theorem dX10_fits_23 : decode cX10_fits 23 = .ok (.getfield 27, 3) := by decide +kernel
theorem dX10_fits_26 : decode cX10_fits 26 = .ok (.aload_n 0, 1) := by decide +kernel
theorem dX10_fits_27 : decode cX10_fits 27 = .ok (.getfield 18, 3) := by decide +kernel
theorem dX10_fits_30 : decode cX10_fits 30 = .ok (.iload_n 1, 1) := by decide +kernel
theorem dX10_fits_31 : decode cX10_fits 31 = .ok (.iaload, 1) := by decide +kernel
theorem dX10_fits_32 : decode cX10_fits 32 = .ok (.iload_n 3, 1) := by decide +kernel
theorem dX10_fits_33 : decode cX10_fits 33 = .ok (.invokevirtual 78, 3) := by decide +kernel
theorem dX10_fits_36 : decode cX10_fits 36 = .ok (.aload_n 0, 1) := by decide +kernel
theorem dX10_fits_37 : decode cX10_fits 37 = .ok (.getfield 27, 3) := by decide +kernel
theorem dX10_fits_40 : decode cX10_fits 40 = .ok (.aload_n 0, 1) := by decide +kernel
theorem dX10_fits_41 : decode cX10_fits 41 = .ok (.getfield 18, 3) := by decide +kernel
theorem dX10_fits_44 : decode cX10_fits 44 = .ok (.iload_n 2, 1) := by decide +kernel
theorem dX10_fits_45 : decode cX10_fits 45 = .ok (.iaload, 1) := by decide +kernel
theorem dX10_fits_46 : decode cX10_fits 46 = .ok (.aload_n 0, 1) := by decide +kernel
theorem dX10_fits_47 : decode cX10_fits 47 = .ok (.getfield 35, 3) := by decide +kernel
theorem dX10_fits_50 : decode cX10_fits 50 = .ok (.iload_n 2, 1) := by decide +kernel
theorem dX10_fits_51 : decode cX10_fits 51 = .ok (.iload_n 1, 1) := by decide +kernel
theorem dX10_fits_52 : decode cX10_fits 52 = .ok (.invokevirtual 83, 3) := by decide +kernel
theorem dX10_fits_55 : decode cX10_fits 55 = .ok (.invokevirtual 78, 3) := by decide +kernel
theorem dX10_fits_58 : decode cX10_fits 58 = .ok (.if_icmp .eq 5, 3) := by decide +kernel
theorem dX10_fits_61 : decode cX10_fits 61 = .ok (.iconst 0, 1) := by decide +kernel
theorem dX10_fits_62 : decode cX10_fits 62 = .ok (.ireturn, 1) := by decide +kernel
theorem dX10_fits_63 : decode cX10_fits 63 = .ok (.iinc 2 1, 3) := by decide +kernel
theorem dX10_fits_66 : decode cX10_fits 66 = .ok (.goto (-64), 3) := by decide +kernel
theorem dX10_fits_69 : decode cX10_fits 69 = .ok (.iconst 1, 1) := by decide +kernel
theorem dX10_fits_70 : decode cX10_fits 70 = .ok (.ireturn, 1) := by decide +kernel
def K_X10_fits_2 (G : xG) (l : Launch) (d : Nat) (P : Int → xMem → Prop) (v1 v2 : Int) (μ : xMem) : Prop := RR G l d 0 0 false mX10_fits (qI P) 2 [some (xr G 58), some (xi v1), some (xi v2), none] [] LAY μ 0 0
set_option maxRecDepth 20000 in
theorem E_X10_fits {G : xG} {l : Launch} {d : Nat} {P : Int → xMem → Prop} {v1 : Int} {μ : xMem} (h : K_X10_fits_2 G l (d + 1) P v1 0 μ) : CI G l (d + 1) mX10_fits [xr G 58, xi v1] μ P := by
  refine CC.ofRR (ll := [some (xr G 58), some (xi v1), none, none]) (by decide +kernel) (Nat.le_of_ble_eq_true rfl) rfl (fun h => by cases h) ?_
  refine xr_iconst dX10_fits_0 ?_
  refine xr_istore_n' (ll' := [some (xr G 58), some (xi v1), some (xi 0), none]) dX10_fits_1 (by decide) rfl rfl ?_
  exact h
set_option maxRecDepth 20000 in
theorem B_X10_fits_2 {G : xG} {l : Launch} {d : Nat} {P : Int → xMem → Prop} {v1 v2 : Int} {μ : xMem} (h : (iR v2 ∧ iR v1 ∧ (v1 ≤ v2 → P 1 μ) ∧ (v2 < v1 → CI G l d mX2_crossingOf [xr G 46, xi v1, xi v2] μ (fun r5 m6 => ((r5 = (-1) → K_X10_fits_2 G l (d + 1) P v1 (v2 + 1) m6) ∧ (r5 ≠ (-1) → ((0 ≤ v1 ∧ v1 < 16) ∧ CI G l d mX3_letterAt [xr G 3, xi (m6 61 v1), xi r5] m6 (fun r10 m11 => ((0 ≤ v2 ∧ v2 < 16) ∧ CI G l d mX2_crossingOf [xr G 46, xi v2, xi v1] m11 (fun r13 m14 => CI G l d mX3_letterAt [xr G 3, xi (m11 61 v2), xi r13] m14 (fun r15 m16 => ((r10 = r15 → K_X10_fits_2 G l (d + 1) P v1 (v2 + 1) m16) ∧ (r10 ≠ r15 → P 0 m16))))))))))))) : K_X10_fits_2 G l (d + 1) P v1 v2 μ := by
  unfold K_X10_fits_2
  refine xr_iload_n dX10_fits_2 rfl ?_
  refine xr_iload_n dX10_fits_3 rfl ?_
  obtain ⟨q1, q2, hT3, hF4⟩ := h
  refine xr_icmp_ge (tgt := 69) dX10_fits_4 (by decide) q1 q2 (fun c => ?_) (fun c => ?_)
  · have h := hT3 c
    refine xr_iconst dX10_fits_69 ?_
    exact xr_zret dX10_fits_70 rfl (x_nz (by decide)).1 ⟨rfl, _, rfl, x_01 (by decide), h⟩
  · have h := hF4 (Int.not_le.mp c)
    refine xr_aload_n dX10_fits_7 rfl ?_
    refine xr_getR dX10_fits_8 fl_X10_35 L_58 rfl ?_
    refine xr_iload_n dX10_fits_11 rfl ?_
    refine xr_iload_n dX10_fits_12 rfl ?_
    refine xr_cvI (As := [xi v1, xi v2]) dX10_fits_13 mi_X2_crossingOf ml_X10_83 se_X2_crossingOf L_46 rfl rfl rfl (Nat.le_of_ble_eq_true rfl) h (fun r5 m6 hr5 h => ?_)
    refine xr_istore_n' (ll' := [some (xr G 58), some (xi v1), some (xi v2), some (xi r5)]) dX10_fits_16 (by decide) rfl rfl ?_
    refine xr_iload_n dX10_fits_17 rfl ?_
    refine xr_iconst dX10_fits_18 ?_
    obtain ⟨hT7, hF8⟩ := h
    refine xr_icmp_eq (tgt := 63) dX10_fits_19 (by decide) hr5 (by decide) (fun c => ?_) (fun c => ?_)
    · have h := hT7 c
      refine xr_iinc' (ll' := [some (xr G 58), some (xi v1), some (xi (v2 + 1)), some (xi r5)]) dX10_fits_63 rfl (by decide) rfl rfl ?_
      refine xr_goto (tgt := 2) dX10_fits_66 (by decide) ?_
      refine xr_wk (ll' := [some (xr G 58), some (xi v1), some (xi (v2 + 1)), none]) ⟨rfl, ⟨rfl, ⟨rfl, trivial⟩⟩⟩ ?_
      exact h
    · have h := hF8 c
      refine xr_aload_n dX10_fits_22 rfl ?_
      refine xr_getR dX10_fits_23 fl_X10_27 L_58 rfl ?_
      refine xr_aload_n dX10_fits_26 rfl ?_
      refine xr_getR dX10_fits_27 fl_X10_18 L_58 rfl ?_
      refine xr_iload_n dX10_fits_30 rfl ?_
      obtain ⟨q9, h⟩ := h
      refine xr_iaload' (v := m6 61 v1) dX10_fits_31 L_61 rfl (by decide) q9 rfl ?_
      refine xr_iload_n dX10_fits_32 rfl ?_
      refine xr_cvI (As := [xi (m6 61 v1), xi r5]) dX10_fits_33 mi_X3_letterAt ml_X10_78 se_X3_letterAt L_3 rfl rfl rfl (Nat.le_of_ble_eq_true rfl) h (fun r10 m11 hr10 h => ?_)
      refine xr_aload_n dX10_fits_36 rfl ?_
      refine xr_getR dX10_fits_37 fl_X10_27 L_58 rfl ?_
      refine xr_aload_n dX10_fits_40 rfl ?_
      refine xr_getR dX10_fits_41 fl_X10_18 L_58 rfl ?_
      refine xr_iload_n dX10_fits_44 rfl ?_
      obtain ⟨q12, h⟩ := h
      refine xr_iaload' (v := m11 61 v2) dX10_fits_45 L_61 rfl (by decide) q12 rfl ?_
      refine xr_aload_n dX10_fits_46 rfl ?_
      refine xr_getR dX10_fits_47 fl_X10_35 L_58 rfl ?_
      refine xr_iload_n dX10_fits_50 rfl ?_
      refine xr_iload_n dX10_fits_51 rfl ?_
      refine xr_cvI (As := [xi v2, xi v1]) dX10_fits_52 mi_X2_crossingOf ml_X10_83 se_X2_crossingOf L_46 rfl rfl rfl (Nat.le_of_ble_eq_true rfl) h (fun r13 m14 hr13 h => ?_)
      refine xr_cvI (As := [xi (m11 61 v2), xi r13]) dX10_fits_55 mi_X3_letterAt ml_X10_78 se_X3_letterAt L_3 rfl rfl rfl (Nat.le_of_ble_eq_true rfl) h (fun r15 m16 hr15 h => ?_)
      obtain ⟨hT17, hF18⟩ := h
      refine xr_icmp_eq (tgt := 63) dX10_fits_58 (by decide) hr10 hr15 (fun c => ?_) (fun c => ?_)
      · have h := hT17 c
        refine xr_iinc' (ll' := [some (xr G 58), some (xi v1), some (xi (v2 + 1)), some (xi r5)]) dX10_fits_63 rfl (by decide) rfl rfl ?_
        refine xr_goto (tgt := 2) dX10_fits_66 (by decide) ?_
        refine xr_wk (ll' := [some (xr G 58), some (xi v1), some (xi (v2 + 1)), none]) ⟨rfl, ⟨rfl, ⟨rfl, trivial⟩⟩⟩ ?_
        exact h
      · have h := hF18 c
        refine xr_iconst dX10_fits_61 ?_
        exact xr_zret dX10_fits_62 rfl (x_nz (by decide)).1 ⟨rfl, _, rfl, x_01 (by decide), h⟩
end Blk32_bX10
