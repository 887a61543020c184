/-! blocks of the class's code, printed by program -/
section Blk24_bX2
set_option maxRecDepth 20000 in
theorem E_X2_hasLight {G : xG} {l : Launch} {d : Nat} {P : Int → xMem → Prop} {v1 : Int} {μ : xMem} (h : (iR v1 ∧ (v1 < 0 → P 0 μ) ∧ (0 ≤ v1 → ((16 ≤ v1 → P 0 μ) ∧ (v1 < 16 → ((0 ≤ v1 ∧ v1 < 16) ∧ (iR (μ 49 v1) ∧ ((μ 49 v1) ≤ 0 → P 0 μ) ∧ (0 < (μ 49 v1) → P 1 μ)))))))) : CI G l (d + 1) mX2_hasLight [xr G 46, xi v1] μ P := by
  refine CC.ofRR (ll := [some (xr G 46), some (xi v1)]) (by decide +kernel) (Nat.le_of_ble_eq_true rfl) rfl (fun h => by cases h) ?_
  refine xr_iload_n dX2_hasLight_0 rfl ?_
  obtain ⟨q1, hT2, hF3⟩ := h
  refine xr_if_lt (tgt := 23) dX2_hasLight_1 (by decide) q1  (fun c => ?_) (fun c => ?_)
  · have h := hT2 c
    refine xr_iconst dX2_hasLight_23 ?_
    exact xr_zret dX2_hasLight_24 rfl (x_nz (by decide)).1 ⟨rfl, _, rfl, x_01 (by decide), h⟩
  · have h := hF3 (Int.not_lt.mp c)
    refine xr_iload_n dX2_hasLight_4 rfl ?_
    refine xr_bipush dX2_hasLight_5 (by decide) ?_
    obtain ⟨hT4, hF5⟩ := h
    refine xr_icmp_ge (tgt := 23) dX2_hasLight_7 (by decide) q1 (by decide) (fun c => ?_) (fun c => ?_)
    · have h := hT4 c
      refine xr_iconst dX2_hasLight_23 ?_
      exact xr_zret dX2_hasLight_24 rfl (x_nz (by decide)).1 ⟨rfl, _, rfl, x_01 (by decide), h⟩
    · have h := hF5 (Int.not_le.mp c)
      refine xr_aload_n dX2_hasLight_10 rfl ?_
      refine xr_getR dX2_hasLight_11 fl_X2_18 L_46 rfl ?_
      refine xr_iload_n dX2_hasLight_14 rfl ?_
      obtain ⟨q6, h⟩ := h
      refine xr_iaload' (v := μ 49 v1) dX2_hasLight_15 L_49 rfl (by decide) q6 rfl ?_
      obtain ⟨q7, hT8, hF9⟩ := h
      refine xr_if_le (tgt := 23) dX2_hasLight_16 (by decide) q7  (fun c => ?_) (fun c => ?_)
      · have h := hT8 c
        refine xr_iconst dX2_hasLight_23 ?_
        exact xr_zret dX2_hasLight_24 rfl (x_nz (by decide)).1 ⟨rfl, _, rfl, x_01 (by decide), h⟩
      · have h := hF9 (Int.not_le.mp c)
        refine xr_iconst dX2_hasLight_19 ?_
        refine xr_goto (tgt := 24) dX2_hasLight_20 (by decide) ?_
        exact xr_zret dX2_hasLight_24 rfl (x_nz (by decide)).1 ⟨rfl, _, rfl, x_01 (by decide), h⟩
set_option maxRecDepth 20000 in
theorem E_X2_isCell {G : xG} {l : Launch} {d : Nat} {P : Int → xMem → Prop} {v1 v2 : Int} {μ : xMem} (h : (iR v1 ∧ (v1 < 0 → P 0 μ) ∧ (0 ≤ v1 → ((9 ≤ v1 → P 0 μ) ∧ (v1 < 9 → (iR v2 ∧ (v2 < 0 → P 0 μ) ∧ (0 ≤ v2 → ((9 ≤ v2 → P 0 μ) ∧ (v2 < 9 → P 1 μ))))))))) : CI G l (d + 1) mX2_isCell [xr G 46, xi v1, xi v2] μ P := by
  refine CC.ofRR (ll := [some (xr G 46), some (xi v1), some (xi v2)]) (by decide +kernel) (Nat.le_of_ble_eq_true rfl) rfl (fun h => by cases h) ?_
  refine xr_iload_n dX2_isCell_0 rfl ?_
  obtain ⟨q1, hT2, hF3⟩ := h
  refine xr_if_lt (tgt := 24) dX2_isCell_1 (by decide) q1  (fun c => ?_) (fun c => ?_)
  · have h := hT2 c
    refine xr_iconst dX2_isCell_24 ?_
    exact xr_zret dX2_isCell_25 rfl (x_nz (by decide)).1 ⟨rfl, _, rfl, x_01 (by decide), h⟩
  · have h := hF3 (Int.not_lt.mp c)
    refine xr_iload_n dX2_isCell_4 rfl ?_
    refine xr_bipush dX2_isCell_5 (by decide) ?_
    obtain ⟨hT4, hF5⟩ := h
    refine xr_icmp_ge (tgt := 24) dX2_isCell_7 (by decide) q1 (by decide) (fun c => ?_) (fun c => ?_)
    · have h := hT4 c
      refine xr_iconst dX2_isCell_24 ?_
      exact xr_zret dX2_isCell_25 rfl (x_nz (by decide)).1 ⟨rfl, _, rfl, x_01 (by decide), h⟩
    · have h := hF5 (Int.not_le.mp c)
      refine xr_iload_n dX2_isCell_10 rfl ?_
      obtain ⟨q6, hT7, hF8⟩ := h
      refine xr_if_lt (tgt := 24) dX2_isCell_11 (by decide) q6  (fun c => ?_) (fun c => ?_)
      · have h := hT7 c
        refine xr_iconst dX2_isCell_24 ?_
        exact xr_zret dX2_isCell_25 rfl (x_nz (by decide)).1 ⟨rfl, _, rfl, x_01 (by decide), h⟩
      · have h := hF8 (Int.not_lt.mp c)
        refine xr_iload_n dX2_isCell_14 rfl ?_
        refine xr_bipush dX2_isCell_15 (by decide) ?_
        obtain ⟨hT9, hF10⟩ := h
        refine xr_icmp_ge (tgt := 24) dX2_isCell_17 (by decide) q6 (by decide) (fun c => ?_) (fun c => ?_)
        · have h := hT9 c
          refine xr_iconst dX2_isCell_24 ?_
          exact xr_zret dX2_isCell_25 rfl (x_nz (by decide)).1 ⟨rfl, _, rfl, x_01 (by decide), h⟩
        · have h := hF10 (Int.not_le.mp c)
          refine xr_iconst dX2_isCell_20 ?_
          refine xr_goto (tgt := 25) dX2_isCell_21 (by decide) ?_
          exact xr_zret dX2_isCell_25 rfl (x_nz (by decide)).1 ⟨rfl, _, rfl, x_01 (by decide), h⟩
set_option maxRecDepth 20000 in
theorem E_X2_isLit {G : xG} {l : Launch} {d : Nat} {P : Int → xMem → Prop} {v1 v2 : Int} {μ : xMem} (h : CI G l d mX2_isCell [xr G 46, xi v1, xi v2] μ (fun r1 m2 => ((r1 ≠ 0 → ((0 ≤ (v1 * 9) + v2 ∧ (v1 * 9) + v2 < 81) ∧ (iR (m2 50 ((v1 * 9) + v2)) ∧ ((m2 50 ((v1 * 9) + v2)) ≠ (-1) → P 1 m2) ∧ ((m2 50 ((v1 * 9) + v2)) = (-1) → (iR (m2 51 ((v1 * 9) + v2)) ∧ ((m2 51 ((v1 * 9) + v2)) = (-1) → P 0 m2) ∧ ((m2 51 ((v1 * 9) + v2)) ≠ (-1) → P 1 m2)))))) ∧ (r1 = 0 → P 0 m2)))) : CI G l (d + 1) mX2_isLit [xr G 46, xi v1, xi v2] μ P := by
  refine CC.ofRR (ll := [some (xr G 46), some (xi v1), some (xi v2), none]) (by decide +kernel) (Nat.le_of_ble_eq_true rfl) rfl (fun h => by cases h) ?_
  refine xr_aload_n dX2_isLit_0 rfl ?_
  refine xr_iload_n dX2_isLit_1 rfl ?_
  refine xr_iload_n dX2_isLit_2 rfl ?_
  refine xr_cvI (As := [xi v1, xi v2]) dX2_isLit_3 mi_X2_isCell ml_X2_51 se_X2_isCell L_46 rfl rfl rfl (Nat.le_of_ble_eq_true rfl) h (fun r1 m2 hr1 h => ?_)
  obtain ⟨hT3, hF4⟩ := h
  refine xr_if_ne (tgt := 11) dX2_isLit_6 (by decide) hr1  (fun c => ?_) (fun c => ?_)
  · have h := hT3 c
    refine xr_iload_n dX2_isLit_11 rfl ?_
    refine xr_bipush dX2_isLit_12 (by decide) ?_
    refine xr_imul dX2_isLit_14 ?_
    refine xr_iload_n dX2_isLit_15 rfl ?_
    refine xr_iadd dX2_isLit_16 ?_
    refine xr_istore_n' (ll' := [some (xr G 46), some (xi v1), some (xi v2), some (xi ((v1 * 9) + v2))]) dX2_isLit_17 (by decide) rfl rfl ?_
    refine xr_aload_n dX2_isLit_18 rfl ?_
    refine xr_getR dX2_isLit_19 fl_X2_21 L_46 rfl ?_
    refine xr_iload_n dX2_isLit_22 rfl ?_
    obtain ⟨q5, h⟩ := h
    refine xr_iaload' (v := m2 50 ((v1 * 9) + v2)) dX2_isLit_23 L_50 rfl (by decide) q5 rfl ?_
    refine xr_iconst dX2_isLit_24 ?_
    obtain ⟨q6, hT7, hF8⟩ := h
    refine xr_icmp_ne (tgt := 38) dX2_isLit_25 (by decide) q6 (by decide) (fun c => ?_) (fun c => ?_)
    · have h := hT7 c
      refine xr_iconst dX2_isLit_38 ?_
      refine xr_goto (tgt := 43) dX2_isLit_39 (by decide) ?_
      exact xr_zret dX2_isLit_43 rfl (x_nz (by decide)).1 ⟨rfl, _, rfl, x_01 (by decide), h⟩
    · have h := hF8 c
      refine xr_aload_n dX2_isLit_28 rfl ?_
      refine xr_getR dX2_isLit_29 fl_X2_24 L_46 rfl ?_
      refine xr_iload_n dX2_isLit_32 rfl ?_
      refine xr_iaload' (v := m2 51 ((v1 * 9) + v2)) dX2_isLit_33 L_51 rfl (by decide) q5 rfl ?_
      refine xr_iconst dX2_isLit_34 ?_
      obtain ⟨q9, hT10, hF11⟩ := h
      refine xr_icmp_eq (tgt := 42) dX2_isLit_35 (by decide) q9 (by decide) (fun c => ?_) (fun c => ?_)
      · have h := hT10 c
        refine xr_iconst dX2_isLit_42 ?_
        exact xr_zret dX2_isLit_43 rfl (x_nz (by decide)).1 ⟨rfl, _, rfl, x_01 (by decide), h⟩
      · have h := hF11 c
        refine xr_iconst dX2_isLit_38 ?_
        refine xr_goto (tgt := 43) dX2_isLit_39 (by decide) ?_
        exact xr_zret dX2_isLit_43 rfl (x_nz (by decide)).1 ⟨rfl, _, rfl, x_01 (by decide), h⟩
  · have h := hF4 c
    refine xr_iconst dX2_isLit_9 ?_
    exact xr_zret dX2_isLit_10 rfl (x_nz (by decide)).1 ⟨rfl, _, rfl, x_01 (by decide), h⟩
def K_X2_addLight_27 (G : xG) (l : Launch) (d : Nat) (P : Int → xMem → Prop) (v1 v2 v3 v4 v5 s0 : Int) (μ : xMem) : Prop := RR G l d 0 0 false mX2_addLight (qI P) 27 [some (xr G 46), some (xi v1), some (xi v2), some (xi v3), some (xi v4), some (xi v5), none, none, none, none] [xi s0] LAY μ 0 0
def K_X2_addLight_53 (G : xG) (l : Launch) (d : Nat) (P : Int → xMem → Prop) (v1 v2 v3 v4 v5 : Int) (μ : xMem) : Prop := RR G l d 0 0 false mX2_addLight (qI P) 53 [some (xr G 46), some (xi v1), some (xi v2), some (xi v3), some (xi v4), some (xi v5), none, none, none, none] [xr G 50] LAY μ 0 0
def K_X2_addLight_53a (G : xG) (l : Launch) (d : Nat) (P : Int → xMem → Prop) (v1 v2 v3 v4 v5 : Int) (μ : xMem) : Prop := RR G l d 0 0 false mX2_addLight (qI P) 53 [some (xr G 46), some (xi v1), some (xi v2), some (xi v3), some (xi v4), some (xi v5), none, none, none, none] [xr G 51] LAY μ 0 0
def K_X2_addLight_79 (G : xG) (l : Launch) (d : Nat) (P : Int → xMem → Prop) (v1 v4 v5 v7 v8 v9 : Int) (μ : xMem) : Prop := RR G l d 0 0 false mX2_addLight (qI P) 79 [some (xr G 46), some (xi v1), none, none, some (xi v4), some (xi v5), some (xr G 50), some (xi v7), some (xi v8), some (xi v9)] [] LAY μ 0 0
def K_X2_addLight_79a (G : xG) (l : Launch) (d : Nat) (P : Int → xMem → Prop) (v1 v4 v5 v7 v8 v9 : Int) (μ : xMem) : Prop := RR G l d 0 0 false mX2_addLight (qI P) 79 [some (xr G 46), some (xi v1), none, none, some (xi v4), some (xi v5), some (xr G 51), some (xi v7), some (xi v8), some (xi v9)] [] LAY μ 0 0
def K_X2_addLight_157 (G : xG) (l : Launch) (d : Nat) (P : Int → xMem → Prop) (v1 v4 v5 v7 v8 v9 : Int) (μ : xMem) : Prop := RR G l d 0 0 false mX2_addLight (qI P) 157 [some (xr G 46), some (xi v1), none, none, some (xi v4), some (xi v5), some (xr G 50), some (xi v7), some (xi v8), some (xi v9)] [] LAY μ 0 0
def K_X2_addLight_157a (G : xG) (l : Launch) (d : Nat) (P : Int → xMem → Prop) (v1 v4 v5 v7 v8 v9 : Int) (μ : xMem) : Prop := RR G l d 0 0 false mX2_addLight (qI P) 157 [some (xr G 46), some (xi v1), none, none, some (xi v4), some (xi v5), some (xr G 51), some (xi v7), some (xi v8), some (xi v9)] [] LAY μ 0 0
set_option maxRecDepth 20000 in
theorem E_X2_addLight {G : xG} {l : Launch} {d : Nat} {P : Int → xMem → Prop} {v1 v2 v3 v4 v5 : Int} {μ : xMem} (h : CI G l d mX2_hasLight [xr G 46, xi v1] μ (fun r1 m2 => ((r1 ≠ 0 → P 0 m2) ∧ (r1 = 0 → CI G l d mX2_isCell [xr G 46, xi v2, xi v3] m2 (fun r5 m6 => ((r5 = 0 → P 0 m6) ∧ (r5 ≠ 0 → (iR v4 ∧ (v4 = 0 → K_X2_addLight_27 G l (d + 1) P v1 v2 v3 v4 v5 v3 m6) ∧ (v4 ≠ 0 → K_X2_addLight_27 G l (d + 1) P v1 v2 v3 v4 v5 v2 m6))))))))) : CI G l (d + 1) mX2_addLight [xr G 46, xi v1, xi v2, xi v3, xi v4, xi v5] μ P := by
  refine CC.ofRR (ll := [some (xr G 46), some (xi v1), some (xi v2), some (xi v3), some (xi v4), some (xi v5), none, none, none, none]) (by decide +kernel) (Nat.le_of_ble_eq_true rfl) rfl (fun h => by cases h) ?_
  refine xr_aload_n dX2_addLight_0 rfl ?_
  refine xr_iload_n dX2_addLight_1 rfl ?_
  refine xr_cvI (As := [xi v1]) dX2_addLight_2 mi_X2_hasLight ml_X2_55 se_X2_hasLight L_46 rfl rfl rfl (Nat.le_of_ble_eq_true rfl) h (fun r1 m2 hr1 h => ?_)
  obtain ⟨hT3, hF4⟩ := h
  refine xr_if_ne (tgt := 35) dX2_addLight_5 (by decide) hr1  (fun c => ?_) (fun c => ?_)
  · have h := hT3 c
    refine xr_iconst dX2_addLight_35 ?_
    exact xr_zret dX2_addLight_36 rfl (x_nz (by decide)).1 ⟨rfl, _, rfl, x_01 (by decide), h⟩
  · have h := hF4 c
    refine xr_aload_n dX2_addLight_8 rfl ?_
    refine xr_iload_n dX2_addLight_9 rfl ?_
    refine xr_iload_n dX2_addLight_10 rfl ?_
    refine xr_cvI (As := [xi v2, xi v3]) dX2_addLight_11 mi_X2_isCell ml_X2_51 se_X2_isCell L_46 rfl rfl rfl (Nat.le_of_ble_eq_true rfl) h (fun r5 m6 hr5 h => ?_)
    obtain ⟨hT7, hF8⟩ := h
    refine xr_if_eq (tgt := 35) dX2_addLight_14 (by decide) hr5  (fun c => ?_) (fun c => ?_)
    · have h := hT7 c
      refine xr_iconst dX2_addLight_35 ?_
      exact xr_zret dX2_addLight_36 rfl (x_nz (by decide)).1 ⟨rfl, _, rfl, x_01 (by decide), h⟩
    · have h := hF8 c
      refine xr_iload dX2_addLight_17 rfl ?_
      obtain ⟨q9, hT10, hF11⟩ := h
      refine xr_if_eq (tgt := 26) dX2_addLight_19 (by decide) q9  (fun c => ?_) (fun c => ?_)
      · have h := hT10 c
        refine xr_iload_n dX2_addLight_26 rfl ?_
        exact h
      · have h := hF11 c
        refine xr_iload_n dX2_addLight_22 rfl ?_
        refine xr_goto (tgt := 27) dX2_addLight_23 (by decide) ?_
        exact h
set_option maxRecDepth 20000 in
theorem B_X2_addLight_27 {G : xG} {l : Launch} {d : Nat} {P : Int → xMem → Prop} {v1 v2 v3 v4 v5 s0 : Int} {μ : xMem} (h : (iR (s0 + v5) ∧ ((s0 + v5) ≤ 9 → (iR v4 ∧ (v4 = 0 → K_X2_addLight_53 G l (d + 1) P v1 v2 v3 v4 v5 μ) ∧ (v4 ≠ 0 → K_X2_addLight_53a G l (d + 1) P v1 v2 v3 v4 v5 μ))) ∧ (9 < (s0 + v5) → P 0 μ))) : K_X2_addLight_27 G l (d + 1) P v1 v2 v3 v4 v5 s0 μ := by
  unfold K_X2_addLight_27
  refine xr_iload dX2_addLight_27 rfl ?_
  refine xr_iadd dX2_addLight_29 ?_
  refine xr_bipush dX2_addLight_30 (by decide) ?_
  obtain ⟨q1, hT2, hF3⟩ := h
  refine xr_icmp_le (tgt := 37) dX2_addLight_32 (by decide) q1 (by decide) (fun c => ?_) (fun c => ?_)
  · have h := hT2 c
    refine xr_iload dX2_addLight_37 rfl ?_
    obtain ⟨q4, hT5, hF6⟩ := h
    refine xr_if_eq (tgt := 49) dX2_addLight_39 (by decide) q4  (fun c => ?_) (fun c => ?_)
    · have h := hT5 c
      refine xr_aload_n dX2_addLight_49 rfl ?_
      refine xr_getR dX2_addLight_50 fl_X2_21 L_46 rfl ?_
      exact h
    · have h := hF6 c
      refine xr_aload_n dX2_addLight_42 rfl ?_
      refine xr_getR dX2_addLight_43 fl_X2_24 L_46 rfl ?_
      refine xr_goto (tgt := 53) dX2_addLight_46 (by decide) ?_
      exact h
  · have h := hF3 (Int.not_le.mp c)
    refine xr_iconst dX2_addLight_35 ?_
    exact xr_zret dX2_addLight_36 rfl (x_nz (by decide)).1 ⟨rfl, _, rfl, x_01 (by decide), h⟩
set_option maxRecDepth 20000 in
theorem B_X2_addLight_53 {G : xG} {l : Launch} {d : Nat} {P : Int → xMem → Prop} {v1 v2 v3 v4 v5 : Int} {μ : xMem} (h : (iR v4 ∧ (v4 = 0 → K_X2_addLight_79 G l (d + 1) P v1 v4 v5 ((v2 * 9) + v3) 1 0 μ) ∧ (v4 ≠ 0 → K_X2_addLight_79 G l (d + 1) P v1 v4 v5 ((v2 * 9) + v3) 9 0 μ))) : K_X2_addLight_53 G l (d + 1) P v1 v2 v3 v4 v5 μ := by
  unfold K_X2_addLight_53
  refine xr_astore' (ll' := [some (xr G 46), some (xi v1), some (xi v2), some (xi v3), some (xi v4), some (xi v5), some (xr G 50), none, none, none]) dX2_addLight_53 (by decide) rfl rfl ?_
  refine xr_iload_n dX2_addLight_55 rfl ?_
  refine xr_bipush dX2_addLight_56 (by decide) ?_
  refine xr_imul dX2_addLight_58 ?_
  refine xr_iload_n dX2_addLight_59 rfl ?_
  refine xr_iadd dX2_addLight_60 ?_
  refine xr_istore' (ll' := [some (xr G 46), some (xi v1), some (xi v2), some (xi v3), some (xi v4), some (xi v5), some (xr G 50), some (xi ((v2 * 9) + v3)), none, none]) dX2_addLight_61 (by decide) rfl rfl ?_
  refine xr_iload dX2_addLight_63 rfl ?_
  obtain ⟨q1, hT2, hF3⟩ := h
  refine xr_if_eq (tgt := 73) dX2_addLight_65 (by decide) q1  (fun c => ?_) (fun c => ?_)
  · have h := hT2 c
    refine xr_iconst dX2_addLight_73 ?_
    refine xr_istore' (ll' := [some (xr G 46), some (xi v1), some (xi v2), some (xi v3), some (xi v4), some (xi v5), some (xr G 50), some (xi ((v2 * 9) + v3)), some (xi 1), none]) dX2_addLight_74 (by decide) rfl rfl ?_
    refine xr_iconst dX2_addLight_76 ?_
    refine xr_istore' (ll' := [some (xr G 46), some (xi v1), some (xi v2), some (xi v3), some (xi v4), some (xi v5), some (xr G 50), some (xi ((v2 * 9) + v3)), some (xi 1), some (xi 0)]) dX2_addLight_77 (by decide) rfl rfl ?_
    refine xr_wk (ll' := [some (xr G 46), some (xi v1), none, none, some (xi v4), some (xi v5), some (xr G 50), some (xi ((v2 * 9) + v3)), some (xi 1), some (xi 0)]) ⟨rfl, ⟨rfl, ⟨rfl, ⟨rfl, ⟨rfl, ⟨rfl, ⟨rfl, ⟨rfl, trivial⟩⟩⟩⟩⟩⟩⟩⟩ ?_
    exact h
  · have h := hF3 c
    refine xr_bipush dX2_addLight_68 (by decide) ?_
    refine xr_goto (tgt := 74) dX2_addLight_70 (by decide) ?_
    refine xr_istore' (ll' := [some (xr G 46), some (xi v1), some (xi v2), some (xi v3), some (xi v4), some (xi v5), some (xr G 50), some (xi ((v2 * 9) + v3)), some (xi 9), none]) dX2_addLight_74 (by decide) rfl rfl ?_
    refine xr_iconst dX2_addLight_76 ?_
    refine xr_istore' (ll' := [some (xr G 46), some (xi v1), some (xi v2), some (xi v3), some (xi v4), some (xi v5), some (xr G 50), some (xi ((v2 * 9) + v3)), some (xi 9), some (xi 0)]) dX2_addLight_77 (by decide) rfl rfl ?_
    refine xr_wk (ll' := [some (xr G 46), some (xi v1), none, none, some (xi v4), some (xi v5), some (xr G 50), some (xi ((v2 * 9) + v3)), some (xi 9), some (xi 0)]) ⟨rfl, ⟨rfl, ⟨rfl, ⟨rfl, ⟨rfl, ⟨rfl, ⟨rfl, ⟨rfl, trivial⟩⟩⟩⟩⟩⟩⟩⟩ ?_
    exact h
set_option maxRecDepth 20000 in
theorem B_X2_addLight_53a {G : xG} {l : Launch} {d : Nat} {P : Int → xMem → Prop} {v1 v2 v3 v4 v5 : Int} {μ : xMem} (h : (iR v4 ∧ (v4 = 0 → K_X2_addLight_79a G l (d + 1) P v1 v4 v5 ((v2 * 9) + v3) 1 0 μ) ∧ (v4 ≠ 0 → K_X2_addLight_79a G l (d + 1) P v1 v4 v5 ((v2 * 9) + v3) 9 0 μ))) : K_X2_addLight_53a G l (d + 1) P v1 v2 v3 v4 v5 μ := by
  unfold K_X2_addLight_53a
  refine xr_astore' (ll' := [some (xr G 46), some (xi v1), some (xi v2), some (xi v3), some (xi v4), some (xi v5), some (xr G 51), none, none, none]) dX2_addLight_53 (by decide) rfl rfl ?_
  refine xr_iload_n dX2_addLight_55 rfl ?_
  refine xr_bipush dX2_addLight_56 (by decide) ?_
  refine xr_imul dX2_addLight_58 ?_
  refine xr_iload_n dX2_addLight_59 rfl ?_
  refine xr_iadd dX2_addLight_60 ?_
  refine xr_istore' (ll' := [some (xr G 46), some (xi v1), some (xi v2), some (xi v3), some (xi v4), some (xi v5), some (xr G 51), some (xi ((v2 * 9) + v3)), none, none]) dX2_addLight_61 (by decide) rfl rfl ?_
  refine xr_iload dX2_addLight_63 rfl ?_
  obtain ⟨q1, hT2, hF3⟩ := h
  refine xr_if_eq (tgt := 73) dX2_addLight_65 (by decide) q1  (fun c => ?_) (fun c => ?_)
  · have h := hT2 c
    refine xr_iconst dX2_addLight_73 ?_
    refine xr_istore' (ll' := [some (xr G 46), some (xi v1), some (xi v2), some (xi v3), some (xi v4), some (xi v5), some (xr G 51), some (xi ((v2 * 9) + v3)), some (xi 1), none]) dX2_addLight_74 (by decide) rfl rfl ?_
    refine xr_iconst dX2_addLight_76 ?_
    refine xr_istore' (ll' := [some (xr G 46), some (xi v1), some (xi v2), some (xi v3), some (xi v4), some (xi v5), some (xr G 51), some (xi ((v2 * 9) + v3)), some (xi 1), some (xi 0)]) dX2_addLight_77 (by decide) rfl rfl ?_
    refine xr_wk (ll' := [some (xr G 46), some (xi v1), none, none, some (xi v4), some (xi v5), some (xr G 51), some (xi ((v2 * 9) + v3)), some (xi 1), some (xi 0)]) ⟨rfl, ⟨rfl, ⟨rfl, ⟨rfl, ⟨rfl, ⟨rfl, ⟨rfl, ⟨rfl, trivial⟩⟩⟩⟩⟩⟩⟩⟩ ?_
    exact h
  · have h := hF3 c
    refine xr_bipush dX2_addLight_68 (by decide) ?_
    refine xr_goto (tgt := 74) dX2_addLight_70 (by decide) ?_
    refine xr_istore' (ll' := [some (xr G 46), some (xi v1), some (xi v2), some (xi v3), some (xi v4), some (xi v5), some (xr G 51), some (xi ((v2 * 9) + v3)), some (xi 9), none]) dX2_addLight_74 (by decide) rfl rfl ?_
    refine xr_iconst dX2_addLight_76 ?_
    refine xr_istore' (ll' := [some (xr G 46), some (xi v1), some (xi v2), some (xi v3), some (xi v4), some (xi v5), some (xr G 51), some (xi ((v2 * 9) + v3)), some (xi 9), some (xi 0)]) dX2_addLight_77 (by decide) rfl rfl ?_
    refine xr_wk (ll' := [some (xr G 46), some (xi v1), none, none, some (xi v4), some (xi v5), some (xr G 51), some (xi ((v2 * 9) + v3)), some (xi 9), some (xi 0)]) ⟨rfl, ⟨rfl, ⟨rfl, ⟨rfl, ⟨rfl, ⟨rfl, ⟨rfl, ⟨rfl, trivial⟩⟩⟩⟩⟩⟩⟩⟩ ?_
    exact h
set_option maxRecDepth 20000 in
theorem B_X2_addLight_79 {G : xG} {l : Launch} {d : Nat} {P : Int → xMem → Prop} {v1 v4 v5 v7 v8 v9 : Int} {μ : xMem} (h : (iR v9 ∧ iR v5 ∧ (v5 ≤ v9 → ((0 ≤ v1 ∧ v1 < 16) ∧ K_X2_addLight_157 G l (d + 1) P v1 v4 v5 v7 v8 0 (st2 (st2 (st2 (st2 (st2 μ 47 v1 v7) 48 v1 v8) 49 v1 v5) 46 9 ((μ 46 9) + 1)) 46 10 ((μ 46 10) + v5)))) ∧ (v9 < v5 → ((0 ≤ v7 + (v9 * v8) ∧ v7 + (v9 * v8) < 81) ∧ (iR (μ 50 (v7 + (v9 * v8))) ∧ ((μ 50 (v7 + (v9 * v8))) = (-1) → K_X2_addLight_79 G l (d + 1) P v1 v4 v5 v7 v8 (v9 + 1) μ) ∧ ((μ 50 (v7 + (v9 * v8))) ≠ (-1) → P 0 μ)))))) : K_X2_addLight_79 G l (d + 1) P v1 v4 v5 v7 v8 v9 μ := by
  unfold K_X2_addLight_79
  refine xr_iload dX2_addLight_79 rfl ?_
  refine xr_iload dX2_addLight_81 rfl ?_
  obtain ⟨q1, q2, hT3, hF4⟩ := h
  refine xr_icmp_ge (tgt := 109) dX2_addLight_83 (by decide) q1 q2 (fun c => ?_) (fun c => ?_)
  · have h := hT3 c
    refine xr_aload_n dX2_addLight_109 rfl ?_
    refine xr_getR dX2_addLight_110 fl_X2_9 L_46 rfl ?_
    refine xr_iload_n dX2_addLight_113 rfl ?_
    refine xr_iload dX2_addLight_114 rfl ?_
    obtain ⟨q5, h⟩ := h
    refine xr_iastore dX2_addLight_116 L_47 rfl (by decide) q5 ?_
    refine xr_aload_n dX2_addLight_117 rfl ?_
    refine xr_getR dX2_addLight_118 fl_X2_15 L_46 rfl ?_
    refine xr_iload_n dX2_addLight_121 rfl ?_
    refine xr_iload dX2_addLight_122 rfl ?_
    refine xr_iastore dX2_addLight_124 L_48 rfl (by decide) q5 ?_
    refine xr_aload_n dX2_addLight_125 rfl ?_
    refine xr_getR dX2_addLight_126 fl_X2_18 L_46 rfl ?_
    refine xr_iload_n dX2_addLight_129 rfl ?_
    refine xr_iload dX2_addLight_130 rfl ?_
    refine xr_iastore dX2_addLight_132 L_49 rfl (by decide) q5 ?_
    refine xr_aload_n dX2_addLight_133 rfl ?_
    refine xr_dup dX2_addLight_134 rfl ?_
    refine xr_getI' (v := μ 46 9) dX2_addLight_135 fl_X2_59 L_46 rfl rfl (by simp [st2, cpy]) ?_
    refine xr_iconst dX2_addLight_138 ?_
    refine xr_iadd dX2_addLight_139 ?_
    refine xr_putI dX2_addLight_140 fp_X2_59 L_46 rfl rfl ⟨rfl, rfl⟩ ?_
    refine xr_aload_n dX2_addLight_143 rfl ?_
    refine xr_dup dX2_addLight_144 rfl ?_
    refine xr_getI' (v := μ 46 10) dX2_addLight_145 fl_X2_63 L_46 rfl rfl (by simp [st2, cpy]) ?_
    refine xr_iload dX2_addLight_148 rfl ?_
    refine xr_iadd dX2_addLight_150 ?_
    refine xr_putI dX2_addLight_151 fp_X2_63 L_46 rfl rfl ⟨rfl, rfl⟩ ?_
    refine xr_iconst dX2_addLight_154 ?_
    refine xr_istore' (ll' := [some (xr G 46), some (xi v1), none, none, some (xi v4), some (xi v5), some (xr G 50), some (xi v7), some (xi v8), some (xi 0)]) dX2_addLight_155 (by decide) rfl rfl ?_
    exact h
  · have h := hF4 (Int.not_le.mp c)
    refine xr_aload dX2_addLight_86 rfl ?_
    refine xr_iload dX2_addLight_88 rfl ?_
    refine xr_iload dX2_addLight_90 rfl ?_
    refine xr_iload dX2_addLight_92 rfl ?_
    refine xr_imul dX2_addLight_94 ?_
    refine xr_iadd dX2_addLight_95 ?_
    obtain ⟨q6, h⟩ := h
    refine xr_iaload' (v := μ 50 (v7 + (v9 * v8))) dX2_addLight_96 L_50 rfl (by decide) q6 rfl ?_
    refine xr_iconst dX2_addLight_97 ?_
    obtain ⟨q7, hT8, hF9⟩ := h
    refine xr_icmp_eq (tgt := 103) dX2_addLight_98 (by decide) q7 (by decide) (fun c => ?_) (fun c => ?_)
    · have h := hT8 c
      refine xr_iinc' (ll' := [some (xr G 46), some (xi v1), none, none, some (xi v4), some (xi v5), some (xr G 50), some (xi v7), some (xi v8), some (xi (v9 + 1))]) dX2_addLight_103 rfl (by decide) rfl rfl ?_
      refine xr_goto (tgt := 79) dX2_addLight_106 (by decide) ?_
      exact h
    · have h := hF9 c
      refine xr_iconst dX2_addLight_101 ?_
      exact xr_zret dX2_addLight_102 rfl (x_nz (by decide)).1 ⟨rfl, _, rfl, x_01 (by decide), h⟩
set_option maxRecDepth 20000 in
theorem B_X2_addLight_79a {G : xG} {l : Launch} {d : Nat} {P : Int → xMem → Prop} {v1 v4 v5 v7 v8 v9 : Int} {μ : xMem} (h : (iR v9 ∧ iR v5 ∧ (v5 ≤ v9 → ((0 ≤ v1 ∧ v1 < 16) ∧ K_X2_addLight_157a G l (d + 1) P v1 v4 v5 v7 v8 0 (st2 (st2 (st2 (st2 (st2 μ 47 v1 v7) 48 v1 v8) 49 v1 v5) 46 9 ((μ 46 9) + 1)) 46 10 ((μ 46 10) + v5)))) ∧ (v9 < v5 → ((0 ≤ v7 + (v9 * v8) ∧ v7 + (v9 * v8) < 81) ∧ (iR (μ 51 (v7 + (v9 * v8))) ∧ ((μ 51 (v7 + (v9 * v8))) = (-1) → K_X2_addLight_79a G l (d + 1) P v1 v4 v5 v7 v8 (v9 + 1) μ) ∧ ((μ 51 (v7 + (v9 * v8))) ≠ (-1) → P 0 μ)))))) : K_X2_addLight_79a G l (d + 1) P v1 v4 v5 v7 v8 v9 μ := by
  unfold K_X2_addLight_79a
  refine xr_iload dX2_addLight_79 rfl ?_
  refine xr_iload dX2_addLight_81 rfl ?_
  obtain ⟨q1, q2, hT3, hF4⟩ := h
  refine xr_icmp_ge (tgt := 109) dX2_addLight_83 (by decide) q1 q2 (fun c => ?_) (fun c => ?_)
  · have h := hT3 c
    refine xr_aload_n dX2_addLight_109 rfl ?_
    refine xr_getR dX2_addLight_110 fl_X2_9 L_46 rfl ?_
    refine xr_iload_n dX2_addLight_113 rfl ?_
    refine xr_iload dX2_addLight_114 rfl ?_
    obtain ⟨q5, h⟩ := h
    refine xr_iastore dX2_addLight_116 L_47 rfl (by decide) q5 ?_
    refine xr_aload_n dX2_addLight_117 rfl ?_
    refine xr_getR dX2_addLight_118 fl_X2_15 L_46 rfl ?_
    refine xr_iload_n dX2_addLight_121 rfl ?_
    refine xr_iload dX2_addLight_122 rfl ?_
    refine xr_iastore dX2_addLight_124 L_48 rfl (by decide) q5 ?_
    refine xr_aload_n dX2_addLight_125 rfl ?_
    refine xr_getR dX2_addLight_126 fl_X2_18 L_46 rfl ?_
    refine xr_iload_n dX2_addLight_129 rfl ?_
    refine xr_iload dX2_addLight_130 rfl ?_
    refine xr_iastore dX2_addLight_132 L_49 rfl (by decide) q5 ?_
    refine xr_aload_n dX2_addLight_133 rfl ?_
    refine xr_dup dX2_addLight_134 rfl ?_
    refine xr_getI' (v := μ 46 9) dX2_addLight_135 fl_X2_59 L_46 rfl rfl (by simp [st2, cpy]) ?_
    refine xr_iconst dX2_addLight_138 ?_
    refine xr_iadd dX2_addLight_139 ?_
    refine xr_putI dX2_addLight_140 fp_X2_59 L_46 rfl rfl ⟨rfl, rfl⟩ ?_
    refine xr_aload_n dX2_addLight_143 rfl ?_
    refine xr_dup dX2_addLight_144 rfl ?_
    refine xr_getI' (v := μ 46 10) dX2_addLight_145 fl_X2_63 L_46 rfl rfl (by simp [st2, cpy]) ?_
    refine xr_iload dX2_addLight_148 rfl ?_
    refine xr_iadd dX2_addLight_150 ?_
    refine xr_putI dX2_addLight_151 fp_X2_63 L_46 rfl rfl ⟨rfl, rfl⟩ ?_
    refine xr_iconst dX2_addLight_154 ?_
    refine xr_istore' (ll' := [some (xr G 46), some (xi v1), none, none, some (xi v4), some (xi v5), some (xr G 51), some (xi v7), some (xi v8), some (xi 0)]) dX2_addLight_155 (by decide) rfl rfl ?_
    exact h
  · have h := hF4 (Int.not_le.mp c)
    refine xr_aload dX2_addLight_86 rfl ?_
    refine xr_iload dX2_addLight_88 rfl ?_
    refine xr_iload dX2_addLight_90 rfl ?_
    refine xr_iload dX2_addLight_92 rfl ?_
    refine xr_imul dX2_addLight_94 ?_
    refine xr_iadd dX2_addLight_95 ?_
    obtain ⟨q6, h⟩ := h
    refine xr_iaload' (v := μ 51 (v7 + (v9 * v8))) dX2_addLight_96 L_51 rfl (by decide) q6 rfl ?_
    refine xr_iconst dX2_addLight_97 ?_
    obtain ⟨q7, hT8, hF9⟩ := h
    refine xr_icmp_eq (tgt := 103) dX2_addLight_98 (by decide) q7 (by decide) (fun c => ?_) (fun c => ?_)
    · have h := hT8 c
      refine xr_iinc' (ll' := [some (xr G 46), some (xi v1), none, none, some (xi v4), some (xi v5), some (xr G 51), some (xi v7), some (xi v8), some (xi (v9 + 1))]) dX2_addLight_103 rfl (by decide) rfl rfl ?_
      refine xr_goto (tgt := 79) dX2_addLight_106 (by decide) ?_
      exact h
    · have h := hF9 c
      refine xr_iconst dX2_addLight_101 ?_
      exact xr_zret dX2_addLight_102 rfl (x_nz (by decide)).1 ⟨rfl, _, rfl, x_01 (by decide), h⟩
set_option maxRecDepth 20000 in
theorem B_X2_addLight_157 {G : xG} {l : Launch} {d : Nat} {P : Int → xMem → Prop} {v1 v4 v5 v7 v8 v9 : Int} {μ : xMem} (h : (iR v9 ∧ iR v5 ∧ (v5 ≤ v9 → P 1 μ) ∧ (v9 < v5 → ((0 ≤ v7 + (v9 * v8) ∧ v7 + (v9 * v8) < 81) ∧ (iR v4 ∧ (v4 = 0 → CV G l d mX2_cross [xr G 46, xi v1, xi v9, xr G 51] (st2 μ 50 (v7 + (v9 * v8)) v1) (fun m10 => K_X2_addLight_157 G l (d + 1) P v1 v4 v5 v7 v8 (v9 + 1) m10)) ∧ (v4 ≠ 0 → CV G l d mX2_cross [xr G 46, xi v1, xi v9, xr G 50] (st2 μ 50 (v7 + (v9 * v8)) v1) (fun m12 => K_X2_addLight_157 G l (d + 1) P v1 v4 v5 v7 v8 (v9 + 1) m12))))))) : K_X2_addLight_157 G l (d + 1) P v1 v4 v5 v7 v8 v9 μ := by
  unfold K_X2_addLight_157
  refine xr_iload dX2_addLight_157 rfl ?_
  refine xr_iload dX2_addLight_159 rfl ?_
  obtain ⟨q1, q2, hT3, hF4⟩ := h
  refine xr_icmp_ge (tgt := 205) dX2_addLight_161 (by decide) q1 q2 (fun c => ?_) (fun c => ?_)
  · have h := hT3 c
    refine xr_iconst dX2_addLight_205 ?_
    exact xr_zret dX2_addLight_206 rfl (x_nz (by decide)).1 ⟨rfl, _, rfl, x_01 (by decide), h⟩
  · have h := hF4 (Int.not_le.mp c)
    refine xr_aload dX2_addLight_164 rfl ?_
    refine xr_iload dX2_addLight_166 rfl ?_
    refine xr_iload dX2_addLight_168 rfl ?_
    refine xr_iload dX2_addLight_170 rfl ?_
    refine xr_imul dX2_addLight_172 ?_
    refine xr_iadd dX2_addLight_173 ?_
    refine xr_iload_n dX2_addLight_174 rfl ?_
    obtain ⟨q5, h⟩ := h
    refine xr_iastore dX2_addLight_175 L_50 rfl (by decide) q5 ?_
    refine xr_aload_n dX2_addLight_176 rfl ?_
    refine xr_iload_n dX2_addLight_177 rfl ?_
    refine xr_iload dX2_addLight_178 rfl ?_
    refine xr_iload dX2_addLight_180 rfl ?_
    obtain ⟨q6, hT7, hF8⟩ := h
    refine xr_if_eq (tgt := 192) dX2_addLight_182 (by decide) q6  (fun c => ?_) (fun c => ?_)
    · have h := hT7 c
      refine xr_aload_n dX2_addLight_192 rfl ?_
      refine xr_getR dX2_addLight_193 fl_X2_24 L_46 rfl ?_
      refine xr_cvV (As := [xi v1, xi v9, xr G 51]) dX2_addLight_196 mi_X2_cross ml_X2_66 se_X2_cross L_46 rfl rfl rfl (Nat.le_of_ble_eq_true rfl) h (fun m10 h => ?_)
      refine xr_iinc' (ll' := [some (xr G 46), some (xi v1), none, none, some (xi v4), some (xi v5), some (xr G 50), some (xi v7), some (xi v8), some (xi (v9 + 1))]) dX2_addLight_199 rfl (by decide) rfl rfl ?_
      refine xr_goto (tgt := 157) dX2_addLight_202 (by decide) ?_
      exact h
    · have h := hF8 c
      refine xr_aload_n dX2_addLight_185 rfl ?_
      refine xr_getR dX2_addLight_186 fl_X2_21 L_46 rfl ?_
      refine xr_goto (tgt := 196) dX2_addLight_189 (by decide) ?_
      refine xr_cvV (As := [xi v1, xi v9, xr G 50]) dX2_addLight_196 mi_X2_cross ml_X2_66 se_X2_cross L_46 rfl rfl rfl (Nat.le_of_ble_eq_true rfl) h (fun m12 h => ?_)
      refine xr_iinc' (ll' := [some (xr G 46), some (xi v1), none, none, some (xi v4), some (xi v5), some (xr G 50), some (xi v7), some (xi v8), some (xi (v9 + 1))]) dX2_addLight_199 rfl (by decide) rfl rfl ?_
      refine xr_goto (tgt := 157) dX2_addLight_202 (by decide) ?_
      exact h
set_option maxRecDepth 20000 in
theorem B_X2_addLight_157a {G : xG} {l : Launch} {d : Nat} {P : Int → xMem → Prop} {v1 v4 v5 v7 v8 v9 : Int} {μ : xMem} (h : (iR v9 ∧ iR v5 ∧ (v5 ≤ v9 → P 1 μ) ∧ (v9 < v5 → ((0 ≤ v7 + (v9 * v8) ∧ v7 + (v9 * v8) < 81) ∧ (iR v4 ∧ (v4 = 0 → CV G l d mX2_cross [xr G 46, xi v1, xi v9, xr G 51] (st2 μ 51 (v7 + (v9 * v8)) v1) (fun m10 => K_X2_addLight_157a G l (d + 1) P v1 v4 v5 v7 v8 (v9 + 1) m10)) ∧ (v4 ≠ 0 → CV G l d mX2_cross [xr G 46, xi v1, xi v9, xr G 50] (st2 μ 51 (v7 + (v9 * v8)) v1) (fun m12 => K_X2_addLight_157a G l (d + 1) P v1 v4 v5 v7 v8 (v9 + 1) m12))))))) : K_X2_addLight_157a G l (d + 1) P v1 v4 v5 v7 v8 v9 μ := by
  unfold K_X2_addLight_157a
  refine xr_iload dX2_addLight_157 rfl ?_
  refine xr_iload dX2_addLight_159 rfl ?_
  obtain ⟨q1, q2, hT3, hF4⟩ := h
  refine xr_icmp_ge (tgt := 205) dX2_addLight_161 (by decide) q1 q2 (fun c => ?_) (fun c => ?_)
  · have h := hT3 c
    refine xr_iconst dX2_addLight_205 ?_
    exact xr_zret dX2_addLight_206 rfl (x_nz (by decide)).1 ⟨rfl, _, rfl, x_01 (by decide), h⟩
  · have h := hF4 (Int.not_le.mp c)
    refine xr_aload dX2_addLight_164 rfl ?_
    refine xr_iload dX2_addLight_166 rfl ?_
    refine xr_iload dX2_addLight_168 rfl ?_
    refine xr_iload dX2_addLight_170 rfl ?_
    refine xr_imul dX2_addLight_172 ?_
    refine xr_iadd dX2_addLight_173 ?_
    refine xr_iload_n dX2_addLight_174 rfl ?_
    obtain ⟨q5, h⟩ := h
    refine xr_iastore dX2_addLight_175 L_51 rfl (by decide) q5 ?_
    refine xr_aload_n dX2_addLight_176 rfl ?_
    refine xr_iload_n dX2_addLight_177 rfl ?_
    refine xr_iload dX2_addLight_178 rfl ?_
    refine xr_iload dX2_addLight_180 rfl ?_
    obtain ⟨q6, hT7, hF8⟩ := h
    refine xr_if_eq (tgt := 192) dX2_addLight_182 (by decide) q6  (fun c => ?_) (fun c => ?_)
    · have h := hT7 c
      refine xr_aload_n dX2_addLight_192 rfl ?_
      refine xr_getR dX2_addLight_193 fl_X2_24 L_46 rfl ?_
      refine xr_cvV (As := [xi v1, xi v9, xr G 51]) dX2_addLight_196 mi_X2_cross ml_X2_66 se_X2_cross L_46 rfl rfl rfl (Nat.le_of_ble_eq_true rfl) h (fun m10 h => ?_)
      refine xr_iinc' (ll' := [some (xr G 46), some (xi v1), none, none, some (xi v4), some (xi v5), some (xr G 51), some (xi v7), some (xi v8), some (xi (v9 + 1))]) dX2_addLight_199 rfl (by decide) rfl rfl ?_
      refine xr_goto (tgt := 157) dX2_addLight_202 (by decide) ?_
      exact h
    · have h := hF8 c
      refine xr_aload_n dX2_addLight_185 rfl ?_
      refine xr_getR dX2_addLight_186 fl_X2_21 L_46 rfl ?_
      refine xr_goto (tgt := 196) dX2_addLight_189 (by decide) ?_
      refine xr_cvV (As := [xi v1, xi v9, xr G 50]) dX2_addLight_196 mi_X2_cross ml_X2_66 se_X2_cross L_46 rfl rfl rfl (Nat.le_of_ble_eq_true rfl) h (fun m12 h => ?_)
      refine xr_iinc' (ll' := [some (xr G 46), some (xi v1), none, none, some (xi v4), some (xi v5), some (xr G 51), some (xi v7), some (xi v8), some (xi (v9 + 1))]) dX2_addLight_199 rfl (by decide) rfl rfl ?_
      refine xr_goto (tgt := 157) dX2_addLight_202 (by decide) ?_
      exact h
set_option maxRecDepth 20000 in
theorem E_X2_cross {G : xG} {l : Launch} {d : Nat} {P : xMem → Prop} {k3 : Nat} {n3 : Nat} (hk3 : LAY[k3]? = some (.inl (0, n3))) (hn3 : n3 < 2147483648) {v1 v2 : Int} {μ : xMem} (h : CI G l d mX2_cellOf [xr G 46, xi v1, xi v2] μ (fun r1 m2 => ((0 ≤ r1 ∧ r1 < (n3 : Int)) ∧ (iR (m2 k3 r1) ∧ ((m2 k3 r1) = (-1) → P m2) ∧ ((m2 k3 r1) ≠ (-1) → ((0 ≤ m2 k3 r1 ∧ m2 k3 r1 < 16) ∧ (iR (m2 48 (m2 k3 r1)) ∧ ((m2 48 (m2 k3 r1)) = 0 → P m2) ∧ ((m2 48 (m2 k3 r1)) ≠ 0 → ((0 ≤ (v1 * 16) + (m2 k3 r1) ∧ (v1 * 16) + (m2 k3 r1) < 256) ∧ ((0 ≤ r1 - (m2 47 (m2 k3 r1)) ∧ r1 - (m2 47 (m2 k3 r1)) < 2147483648) ∧ (0 < m2 48 (m2 k3 r1) ∧ m2 48 (m2 k3 r1) < 2147483648) ∧ ((0 ≤ ((m2 k3 r1) * 16) + v1 ∧ ((m2 k3 r1) * 16) + v1 < 256) ∧ P (st2 (st2 m2 53 ((v1 * 16) + (m2 k3 r1)) v2) 53 (((m2 k3 r1) * 16) + v1) ((r1 - (m2 47 (m2 k3 r1))) / (m2 48 (m2 k3 r1))))))))))))))) : CV G l (d + 1) mX2_cross [xr G 46, xi v1, xi v2, xr G k3] μ P := by
  refine CC.ofRR (ll := [some (xr G 46), some (xi v1), some (xi v2), some (xr G k3), none, none]) (by decide +kernel) (Nat.le_of_ble_eq_true rfl) rfl (fun h => by cases h) ?_
  refine xr_aload_n dX2_cross_0 rfl ?_
  refine xr_iload_n dX2_cross_1 rfl ?_
  refine xr_iload_n dX2_cross_2 rfl ?_
  refine xr_cvI (As := [xi v1, xi v2]) dX2_cross_3 mi_X2_cellOf ml_X2_70 se_X2_cellOf L_46 rfl rfl rfl (Nat.le_of_ble_eq_true rfl) h (fun r1 m2 hr1 h => ?_)
  refine xr_istore' (ll' := [some (xr G 46), some (xi v1), some (xi v2), some (xr G k3), some (xi r1), none]) dX2_cross_6 (by decide) rfl rfl ?_
  refine xr_aload_n dX2_cross_8 rfl ?_
  refine xr_iload dX2_cross_9 rfl ?_
  obtain ⟨q3, h⟩ := h
  refine xr_iaload' (v := m2 k3 r1) dX2_cross_11 hk3 rfl hn3 q3 rfl ?_
  refine xr_istore' (ll' := [some (xr G 46), some (xi v1), some (xi v2), some (xr G k3), some (xi r1), some (xi (m2 k3 r1))]) dX2_cross_12 (by decide) rfl rfl ?_
  refine xr_iload dX2_cross_14 rfl ?_
  refine xr_iconst dX2_cross_16 ?_
  obtain ⟨q4, hT5, hF6⟩ := h
  refine xr_icmp_eq (tgt := 73) dX2_cross_17 (by decide) q4 (by decide) (fun c => ?_) (fun c => ?_)
  · have h := hT5 c
    exact xr_ret dX2_cross_73 rfl ⟨rfl, rfl, h⟩
  · have h := hF6 c
    refine xr_aload_n dX2_cross_20 rfl ?_
    refine xr_getR dX2_cross_21 fl_X2_15 L_46 rfl ?_
    refine xr_iload dX2_cross_24 rfl ?_
    obtain ⟨q7, h⟩ := h
    refine xr_iaload' (v := m2 48 (m2 k3 r1)) dX2_cross_26 L_48 rfl (by decide) q7 rfl ?_
    obtain ⟨q8, hT9, hF10⟩ := h
    refine xr_if_eq (tgt := 73) dX2_cross_27 (by decide) q8  (fun c => ?_) (fun c => ?_)
    · have h := hT9 c
      exact xr_ret dX2_cross_73 rfl ⟨rfl, rfl, h⟩
    · have h := hF10 c
      refine xr_aload_n dX2_cross_30 rfl ?_
      refine xr_getR dX2_cross_31 fl_X2_30 L_46 rfl ?_
      refine xr_iload_n dX2_cross_34 rfl ?_
      refine xr_bipush dX2_cross_35 (by decide) ?_
      refine xr_imul dX2_cross_37 ?_
      refine xr_iload dX2_cross_38 rfl ?_
      refine xr_iadd dX2_cross_40 ?_
      refine xr_iload_n dX2_cross_41 rfl ?_
      obtain ⟨q11, h⟩ := h
      refine xr_iastore dX2_cross_42 L_53 rfl (by decide) q11 ?_
      refine xr_aload_n dX2_cross_43 rfl ?_
      refine xr_getR dX2_cross_44 fl_X2_30 L_46 rfl ?_
      refine xr_iload dX2_cross_47 rfl ?_
      refine xr_bipush dX2_cross_49 (by decide) ?_
      refine xr_imul dX2_cross_51 ?_
      refine xr_iload_n dX2_cross_52 rfl ?_
      refine xr_iadd dX2_cross_53 ?_
      refine xr_iload dX2_cross_54 rfl ?_
      refine xr_aload_n dX2_cross_56 rfl ?_
      refine xr_getR dX2_cross_57 fl_X2_9 L_46 rfl ?_
      refine xr_iload dX2_cross_60 rfl ?_
      refine xr_iaload' (v := m2 47 (m2 k3 r1)) dX2_cross_62 L_47 rfl (by decide) q7 (by simp [st2, cpy]) ?_
      refine xr_isub dX2_cross_63 ?_
      refine xr_aload_n dX2_cross_64 rfl ?_
      refine xr_getR dX2_cross_65 fl_X2_15 L_46 rfl ?_
      refine xr_iload dX2_cross_68 rfl ?_
      refine xr_iaload' (v := m2 48 (m2 k3 r1)) dX2_cross_70 L_48 rfl (by decide) q7 (by simp [st2, cpy]) ?_
      obtain ⟨q12, q13, h⟩ := h
      refine xr_idiv dX2_cross_71 q12 q13 ?_
      obtain ⟨q14, h⟩ := h
      refine xr_iastore dX2_cross_72 L_53 rfl (by decide) q14 ?_
      exact xr_ret dX2_cross_73 rfl ⟨rfl, rfl, h⟩
set_option maxRecDepth 20000 in
theorem E_X2_cellOf {G : xG} {l : Launch} {d : Nat} {P : Int → xMem → Prop} {v1 v2 : Int} {μ : xMem} (h : ((0 ≤ v1 ∧ v1 < 16) ∧ (iR ((μ 47 v1) + (v2 * (μ 48 v1))) ∧ P ((μ 47 v1) + (v2 * (μ 48 v1))) μ))) : CI G l (d + 1) mX2_cellOf [xr G 46, xi v1, xi v2] μ P := by
  refine CC.ofRR (ll := [some (xr G 46), some (xi v1), some (xi v2)]) (by decide +kernel) (Nat.le_of_ble_eq_true rfl) rfl (fun h => by cases h) ?_
  refine xr_aload_n dX2_cellOf_0 rfl ?_
  refine xr_getR dX2_cellOf_1 fl_X2_9 L_46 rfl ?_
  refine xr_iload_n dX2_cellOf_4 rfl ?_
  obtain ⟨q1, h⟩ := h
  refine xr_iaload' (v := μ 47 v1) dX2_cellOf_5 L_47 rfl (by decide) q1 rfl ?_
  refine xr_iload_n dX2_cellOf_6 rfl ?_
  refine xr_aload_n dX2_cellOf_7 rfl ?_
  refine xr_getR dX2_cellOf_8 fl_X2_15 L_46 rfl ?_
  refine xr_iload_n dX2_cellOf_11 rfl ?_
  refine xr_iaload' (v := μ 48 v1) dX2_cellOf_12 L_48 rfl (by decide) q1 rfl ?_
  refine xr_imul dX2_cellOf_13 ?_
  refine xr_iadd dX2_cellOf_14 ?_
  obtain ⟨q2, h⟩ := h
  exact xr_iret dX2_cellOf_15 rfl ⟨rfl, _, rfl, q2, h⟩
set_option maxRecDepth 20000 in
theorem E_X2_crossingOf {G : xG} {l : Launch} {d : Nat} {P : Int → xMem → Prop} {v1 v2 : Int} {μ : xMem} (h : ((0 ≤ (v1 * 16) + v2 ∧ (v1 * 16) + v2 < 256) ∧ (iR (μ 53 ((v1 * 16) + v2)) ∧ P (μ 53 ((v1 * 16) + v2)) μ))) : CI G l (d + 1) mX2_crossingOf [xr G 46, xi v1, xi v2] μ P := by
  refine CC.ofRR (ll := [some (xr G 46), some (xi v1), some (xi v2)]) (by decide +kernel) (Nat.le_of_ble_eq_true rfl) rfl (fun h => by cases h) ?_
  refine xr_aload_n dX2_crossingOf_0 rfl ?_
  refine xr_getR dX2_crossingOf_1 fl_X2_30 L_46 rfl ?_
  refine xr_iload_n dX2_crossingOf_4 rfl ?_
  refine xr_bipush dX2_crossingOf_5 (by decide) ?_
  refine xr_imul dX2_crossingOf_7 ?_
  refine xr_iload_n dX2_crossingOf_8 rfl ?_
  refine xr_iadd dX2_crossingOf_9 ?_
  obtain ⟨q1, h⟩ := h
  refine xr_iaload' (v := μ 53 ((v1 * 16) + v2)) dX2_crossingOf_10 L_53 rfl (by decide) q1 rfl ?_
  obtain ⟨q2, h⟩ := h
  exact xr_iret dX2_crossingOf_11 rfl ⟨rfl, _, rfl, q2, h⟩
set_option maxRecDepth 20000 in
theorem E_X2_addSolution {G : xG} {l : Launch} {d : Nat} {P : Int → xMem → Prop} {v1 v2 v3 : Int} {μ : xMem} (h : CI G l d mX4_add [xr G 54, xi v1, xi v3] μ (fun r1 m2 => ((r1 ≠ (-1) → ((0 ≤ r1 ∧ r1 < 60) ∧ P 1 (st2 m2 57 r1 v2))) ∧ (r1 = (-1) → P 0 m2)))) : CI G l (d + 1) mX2_addSolution [xr G 46, xi v1, xi v2, xi v3] μ P := by
  refine CC.ofRR (ll := [some (xr G 46), some (xi v1), some (xi v2), some (xi v3), none]) (by decide +kernel) (Nat.le_of_ble_eq_true rfl) rfl (fun h => by cases h) ?_
  refine xr_aload_n dX2_addSolution_0 rfl ?_
  refine xr_getR dX2_addSolution_1 fl_X2_38 L_46 rfl ?_
  refine xr_iload_n dX2_addSolution_4 rfl ?_
  refine xr_iload_n dX2_addSolution_5 rfl ?_
  refine xr_cvI (As := [xi v1, xi v3]) dX2_addSolution_6 mi_X4_add ml_X2_74 se_X4_add L_54 rfl rfl rfl (Nat.le_of_ble_eq_true rfl) h (fun r1 m2 hr1 h => ?_)
  refine xr_istore' (ll' := [some (xr G 46), some (xi v1), some (xi v2), some (xi v3), some (xi r1)]) dX2_addSolution_9 (by decide) rfl rfl ?_
  refine xr_iload dX2_addSolution_11 rfl ?_
  refine xr_iconst dX2_addSolution_13 ?_
  obtain ⟨hT3, hF4⟩ := h
  refine xr_icmp_ne (tgt := 19) dX2_addSolution_14 (by decide) hr1 (by decide) (fun c => ?_) (fun c => ?_)
  · have h := hT3 c
    refine xr_aload_n dX2_addSolution_19 rfl ?_
    refine xr_getR dX2_addSolution_20 fl_X2_42 L_46 rfl ?_
    refine xr_iload dX2_addSolution_23 rfl ?_
    refine xr_iload_n dX2_addSolution_25 rfl ?_
    obtain ⟨q5, h⟩ := h
    refine xr_iastore dX2_addSolution_26 L_57 rfl (by decide) q5 ?_
    refine xr_iconst dX2_addSolution_27 ?_
    exact xr_zret dX2_addSolution_28 rfl (x_nz (by decide)).1 ⟨rfl, _, rfl, x_01 (by decide), h⟩
  · have h := hF4 c
    refine xr_iconst dX2_addSolution_17 ?_
    exact xr_zret dX2_addSolution_18 rfl (x_nz (by decide)).1 ⟨rfl, _, rfl, x_01 (by decide), h⟩
set_option maxRecDepth 20000 in
theorem E_X2_solutionOf {G : xG} {l : Launch} {d : Nat} {P : Int → xMem → Prop} {v1 v2 : Int} {μ : xMem} (h : CI G l d mX4_latest [xr G 54, xi v1, xi v2] μ (fun r1 m2 => ((r1 ≠ (-1) → ((0 ≤ r1 ∧ r1 < 60) ∧ (iR (m2 57 r1) ∧ P (m2 57 r1) m2))) ∧ (r1 = (-1) → P (-1) m2)))) : CI G l (d + 1) mX2_solutionOf [xr G 46, xi v1, xi v2] μ P := by
  refine CC.ofRR (ll := [some (xr G 46), some (xi v1), some (xi v2), none]) (by decide +kernel) (Nat.le_of_ble_eq_true rfl) rfl (fun h => by cases h) ?_
  refine xr_aload_n dX2_solutionOf_0 rfl ?_
  refine xr_getR dX2_solutionOf_1 fl_X2_38 L_46 rfl ?_
  refine xr_iload_n dX2_solutionOf_4 rfl ?_
  refine xr_iload_n dX2_solutionOf_5 rfl ?_
  refine xr_cvI (As := [xi v1, xi v2]) dX2_solutionOf_6 mi_X4_latest ml_X2_77 se_X4_latest L_54 rfl rfl rfl (Nat.le_of_ble_eq_true rfl) h (fun r1 m2 hr1 h => ?_)
  refine xr_istore_n' (ll' := [some (xr G 46), some (xi v1), some (xi v2), some (xi r1)]) dX2_solutionOf_9 (by decide) rfl rfl ?_
  refine xr_iload_n dX2_solutionOf_10 rfl ?_
  refine xr_iconst dX2_solutionOf_11 ?_
  obtain ⟨hT3, hF4⟩ := h
  refine xr_icmp_ne (tgt := 19) dX2_solutionOf_12 (by decide) hr1 (by decide) (fun c => ?_) (fun c => ?_)
  · have h := hT3 c
    refine xr_aload_n dX2_solutionOf_19 rfl ?_
    refine xr_getR dX2_solutionOf_20 fl_X2_42 L_46 rfl ?_
    refine xr_iload_n dX2_solutionOf_23 rfl ?_
    obtain ⟨q5, h⟩ := h
    refine xr_iaload' (v := m2 57 r1) dX2_solutionOf_24 L_57 rfl (by decide) q5 rfl ?_
    obtain ⟨q6, h⟩ := h
    exact xr_iret dX2_solutionOf_25 rfl ⟨rfl, _, rfl, q6, h⟩
  · have h := hF4 c
    refine xr_iconst dX2_solutionOf_15 ?_
    refine xr_goto (tgt := 25) dX2_solutionOf_16 (by decide) ?_
    exact xr_iret dX2_solutionOf_25 rfl ⟨rfl, _, rfl, (by decide), h⟩
end Blk24_bX2
