/-! blocks of the class's code, printed by program -/
section Blk20_bX4
set_option maxRecDepth 20000 in
theorem E_X4_isFull {G : xG} {l : Launch} {d : Nat} {P : Int → xMem → Prop} {k : Nat} {ka : Nat} {kb : Nat} {kn : Nat} (hk : LAY[k]? = some (.inr (4, [some (some ka), some (some kb), none]))) (hka : LAY[ka]? = some (.inl (0, kn))) (hkb : LAY[kb]? = some (.inl (0, kn))) (hkn : kn < 2147483648) {μ : xMem} (h : (iR (μ k 2) ∧ ((μ k 2) < (kn : Int) → P 0 μ) ∧ ((kn : Int) ≤ (μ k 2) → P 1 μ))) : CI G l (d + 1) mX4_isFull [xr G k] μ P := by
  refine CC.ofRR (ll := [some (xr G k)]) (by decide +kernel) (Nat.le_of_ble_eq_true rfl) rfl (fun h => by cases h) ?_
  refine xr_aload_n dX4_isFull_0 rfl ?_
  refine xr_getI' (v := μ k 2) dX4_isFull_1 fl_X4_24 hk rfl rfl rfl ?_
  refine xr_aload_n dX4_isFull_4 rfl ?_
  refine xr_getR dX4_isFull_5 fl_X4_15 hk rfl ?_
  refine xr_alen dX4_isFull_8 hka (by decide) rfl ?_
  obtain ⟨q1, hT2, hF3⟩ := h
  refine xr_icmp_lt (tgt := 16) dX4_isFull_9 (by decide) q1 (hn_R hkn) (fun c => ?_) (fun c => ?_)
  · have h := hT2 c
    refine xr_iconst dX4_isFull_16 ?_
    exact xr_zret dX4_isFull_17 rfl (x_nz (by decide)).1 ⟨rfl, _, rfl, x_01 (by decide), h⟩
  · have h := hF3 (Int.not_lt.mp c)
    refine xr_iconst dX4_isFull_12 ?_
    refine xr_goto (tgt := 17) dX4_isFull_13 (by decide) ?_
    exact xr_zret dX4_isFull_17 rfl (x_nz (by decide)).1 ⟨rfl, _, rfl, x_01 (by decide), h⟩
set_option maxRecDepth 20000 in
theorem E_X4_add {G : xG} {l : Launch} {d : Nat} {P : Int → xMem → Prop} {k : Nat} {ka : Nat} {kb : Nat} {kn : Nat} (hk : LAY[k]? = some (.inr (4, [some (some ka), some (some kb), none]))) (hka : LAY[ka]? = some (.inl (0, kn))) (hkb : LAY[kb]? = some (.inl (0, kn))) (hkn : kn < 2147483648) {v1 v2 : Int} {μ : xMem} (h : CI G l d mX4_isFull [xr G k] μ (fun r1 m2 => ((r1 = 0 → ((0 ≤ m2 k 2 ∧ m2 k 2 < (kn : Int)) ∧ ((0 ≤ (st2 m2 ka (m2 k 2) v2) k 2 ∧ (st2 m2 ka (m2 k 2) v2) k 2 < (kn : Int)) ∧ (iR ((((st2 (st2 m2 ka (m2 k 2) v2) kb ((st2 m2 ka (m2 k 2) v2) k 2) v1) k 2) + 1) - 1) ∧ P ((((st2 (st2 m2 ka (m2 k 2) v2) kb ((st2 m2 ka (m2 k 2) v2) k 2) v1) k 2) + 1) - 1) (st2 (st2 (st2 m2 ka (m2 k 2) v2) kb ((st2 m2 ka (m2 k 2) v2) k 2) v1) k 2 (((st2 (st2 m2 ka (m2 k 2) v2) kb ((st2 m2 ka (m2 k 2) v2) k 2) v1) k 2) + 1)))))) ∧ (r1 ≠ 0 → P (-1) m2)))) : CI G l (d + 1) mX4_add [xr G k, xi v1, xi v2] μ P := by
  refine CC.ofRR (ll := [some (xr G k), some (xi v1), some (xi v2)]) (by decide +kernel) (Nat.le_of_ble_eq_true rfl) rfl (fun h => by cases h) ?_
  refine xr_aload_n dX4_add_0 rfl ?_
  refine xr_cvI (As := []) dX4_add_1 mi_X4_isFull ml_X4_28 se_X4_isFull hk rfl rfl rfl (Nat.le_of_ble_eq_true rfl) h (fun r1 m2 hr1 h => ?_)
  obtain ⟨hT3, hF4⟩ := h
  refine xr_if_eq (tgt := 9) dX4_add_4 (by decide) hr1  (fun c => ?_) (fun c => ?_)
  · have h := hT3 c
    refine xr_aload_n dX4_add_9 rfl ?_
    refine xr_getR dX4_add_10 fl_X4_15 hk rfl ?_
    refine xr_aload_n dX4_add_13 rfl ?_
    refine xr_getI' (v := m2 k 2) dX4_add_14 fl_X4_24 hk rfl rfl rfl ?_
    refine xr_iload_n dX4_add_17 rfl ?_
    obtain ⟨q5, h⟩ := h
    refine xr_iastore dX4_add_18 hka rfl hkn q5 ?_
    refine xr_aload_n dX4_add_19 rfl ?_
    refine xr_getR dX4_add_20 fl_X4_21 hk rfl ?_
    refine xr_aload_n dX4_add_23 rfl ?_
    refine xr_getI' (v := (st2 m2 ka (m2 k 2) v2) k 2) dX4_add_24 fl_X4_24 hk rfl rfl rfl ?_
    refine xr_iload_n dX4_add_27 rfl ?_
    obtain ⟨q6, h⟩ := h
    refine xr_iastore dX4_add_28 hkb rfl hkn q6 ?_
    refine xr_aload_n dX4_add_29 rfl ?_
    refine xr_dup dX4_add_30 rfl ?_
    refine xr_getI' (v := (st2 (st2 m2 ka (m2 k 2) v2) kb ((st2 m2 ka (m2 k 2) v2) k 2) v1) k 2) dX4_add_31 fl_X4_24 hk rfl rfl rfl ?_
    refine xr_iconst dX4_add_34 ?_
    refine xr_iadd dX4_add_35 ?_
    refine xr_putI dX4_add_36 fp_X4_24 hk rfl rfl ⟨rfl, rfl⟩ ?_
    refine xr_aload_n dX4_add_39 rfl ?_
    refine xr_getI' (v := ((st2 (st2 m2 ka (m2 k 2) v2) kb ((st2 m2 ka (m2 k 2) v2) k 2) v1) k 2) + 1) dX4_add_40 fl_X4_24 hk rfl rfl (by simp [st2, cpy]) ?_
    refine xr_iconst dX4_add_43 ?_
    refine xr_isub dX4_add_44 ?_
    obtain ⟨q7, h⟩ := h
    exact xr_iret dX4_add_45 rfl ⟨rfl, _, rfl, q7, h⟩
  · have h := hF4 c
    refine xr_iconst dX4_add_7 ?_
    exact xr_iret dX4_add_8 rfl ⟨rfl, _, rfl, (by decide), h⟩
def K_X4_knownOn_5 (G : xG) (l : Launch) (d : Nat) (P : Int → xMem → Prop) (k : Nat) (ka : Nat) (kb : Nat) (kn : Nat) (v1 v2 : Int) (μ : xMem) : Prop := RR G l d 0 0 false mX4_knownOn (qI P) 5 [some (xr G k), some (xi v1), some (xi v2)] [] LAY μ 0 0
set_option maxRecDepth 20000 in
theorem E_X4_knownOn {G : xG} {l : Launch} {d : Nat} {P : Int → xMem → Prop} {k : Nat} {ka : Nat} {kb : Nat} {kn : Nat} (hk : LAY[k]? = some (.inr (4, [some (some ka), some (some kb), none]))) (hka : LAY[ka]? = some (.inl (0, kn))) (hkb : LAY[kb]? = some (.inl (0, kn))) (hkn : kn < 2147483648) {v1 : Int} {μ : xMem} (h : K_X4_knownOn_5 G l (d + 1) P k ka kb kn v1 (μ k 2) μ) : CI G l (d + 1) mX4_knownOn [xr G k, xi v1] μ P := by
  refine CC.ofRR (ll := [some (xr G k), some (xi v1), none]) (by decide +kernel) (Nat.le_of_ble_eq_true rfl) rfl (fun h => by cases h) ?_
  refine xr_aload_n dX4_knownOn_0 rfl ?_
  refine xr_getI' (v := μ k 2) dX4_knownOn_1 fl_X4_24 hk rfl rfl rfl ?_
  refine xr_istore_n' (ll' := [some (xr G k), some (xi v1), some (xi (μ k 2))]) dX4_knownOn_4 (by decide) rfl rfl ?_
  exact h
set_option maxRecDepth 20000 in
theorem B_X4_knownOn_5 {G : xG} {l : Launch} {d : Nat} {P : Int → xMem → Prop} {k : Nat} {ka : Nat} {kb : Nat} {kn : Nat} (hk : LAY[k]? = some (.inr (4, [some (some ka), some (some kb), none]))) (hka : LAY[ka]? = some (.inl (0, kn))) (hkb : LAY[kb]? = some (.inl (0, kn))) (hkn : kn < 2147483648) {v1 v2 : Int} {μ : xMem} (h : (iR v2 ∧ (v2 ≤ 0 → P v2 μ) ∧ (0 < v2 → ((0 ≤ v2 - 1 ∧ v2 - 1 < (kn : Int)) ∧ (iR (μ ka (v2 - 1)) ∧ iR v1 ∧ ((μ ka (v2 - 1)) ≤ v1 → P v2 μ) ∧ (v1 < (μ ka (v2 - 1)) → K_X4_knownOn_5 G l (d + 1) P k ka kb kn v1 (v2 + (-1)) μ)))))) : K_X4_knownOn_5 G l (d + 1) P k ka kb kn v1 v2 μ := by
  unfold K_X4_knownOn_5
  refine xr_iload_n dX4_knownOn_5 rfl ?_
  obtain ⟨q1, hT2, hF3⟩ := h
  refine xr_if_le (tgt := 27) dX4_knownOn_6 (by decide) q1  (fun c => ?_) (fun c => ?_)
  · have h := hT2 c
    refine xr_iload_n dX4_knownOn_27 rfl ?_
    exact xr_iret dX4_knownOn_28 rfl ⟨rfl, _, rfl, q1, h⟩
  · have h := hF3 (Int.not_le.mp c)
    refine xr_aload_n dX4_knownOn_9 rfl ?_
    refine xr_getR dX4_knownOn_10 fl_X4_15 hk rfl ?_
    refine xr_iload_n dX4_knownOn_13 rfl ?_
    refine xr_iconst dX4_knownOn_14 ?_
    refine xr_isub dX4_knownOn_15 ?_
    obtain ⟨q4, h⟩ := h
    refine xr_iaload' (v := μ ka (v2 - 1)) dX4_knownOn_16 hka rfl hkn q4 rfl ?_
    refine xr_iload_n dX4_knownOn_17 rfl ?_
    obtain ⟨q5, q6, hT7, hF8⟩ := h
    refine xr_icmp_le (tgt := 27) dX4_knownOn_18 (by decide) q5 q6 (fun c => ?_) (fun c => ?_)
    · have h := hT7 c
      refine xr_iload_n dX4_knownOn_27 rfl ?_
      exact xr_iret dX4_knownOn_28 rfl ⟨rfl, _, rfl, q1, h⟩
    · have h := hF8 (Int.not_le.mp c)
      refine xr_iinc' (ll' := [some (xr G k), some (xi v1), some (xi (v2 + (-1)))]) dX4_knownOn_21 rfl (by decide) rfl rfl ?_
      refine xr_goto (tgt := 5) dX4_knownOn_24 (by decide) ?_
      exact h
def K_X4_latest_8 (G : xG) (l : Launch) (d : Nat) (P : Int → xMem → Prop) (k : Nat) (ka : Nat) (kb : Nat) (kn : Nat) (v1 v3 : Int) (μ : xMem) : Prop := RR G l d 0 0 false mX4_latest (qI P) 8 [some (xr G k), some (xi v1), none, some (xi v3)] [] LAY μ 0 0
set_option maxRecDepth 20000 in
theorem E_X4_latest {G : xG} {l : Launch} {d : Nat} {P : Int → xMem → Prop} {k : Nat} {ka : Nat} {kb : Nat} {kn : Nat} (hk : LAY[k]? = some (.inr (4, [some (some ka), some (some kb), none]))) (hka : LAY[ka]? = some (.inl (0, kn))) (hkb : LAY[kb]? = some (.inl (0, kn))) (hkn : kn < 2147483648) {v1 v2 : Int} {μ : xMem} (h : CI G l d mX4_knownOn [xr G k, xi v2] μ (fun r1 m2 => K_X4_latest_8 G l (d + 1) P k ka kb kn v1 (r1 - 1) m2)) : CI G l (d + 1) mX4_latest [xr G k, xi v1, xi v2] μ P := by
  refine CC.ofRR (ll := [some (xr G k), some (xi v1), some (xi v2), none]) (by decide +kernel) (Nat.le_of_ble_eq_true rfl) rfl (fun h => by cases h) ?_
  refine xr_aload_n dX4_latest_0 rfl ?_
  refine xr_iload_n dX4_latest_1 rfl ?_
  refine xr_cvI (As := [xi v2]) dX4_latest_2 mi_X4_knownOn ml_X4_32 se_X4_knownOn hk rfl rfl rfl (Nat.le_of_ble_eq_true rfl) h (fun r1 m2 hr1 h => ?_)
  refine xr_iconst dX4_latest_5 ?_
  refine xr_isub dX4_latest_6 ?_
  refine xr_istore_n' (ll' := [some (xr G k), some (xi v1), some (xi v2), some (xi (r1 - 1))]) dX4_latest_7 (by decide) rfl rfl ?_
  refine xr_wk (ll' := [some (xr G k), some (xi v1), none, some (xi (r1 - 1))]) ⟨rfl, ⟨rfl, ⟨rfl, trivial⟩⟩⟩ ?_
  exact h
set_option maxRecDepth 20000 in
theorem B_X4_latest_8 {G : xG} {l : Launch} {d : Nat} {P : Int → xMem → Prop} {k : Nat} {ka : Nat} {kb : Nat} {kn : Nat} (hk : LAY[k]? = some (.inr (4, [some (some ka), some (some kb), none]))) (hka : LAY[ka]? = some (.inl (0, kn))) (hkb : LAY[kb]? = some (.inl (0, kn))) (hkn : kn < 2147483648) {v1 v3 : Int} {μ : xMem} (h : (iR v3 ∧ (v3 < 0 → P (-1) μ) ∧ (0 ≤ v3 → ((0 ≤ v3 ∧ v3 < (kn : Int)) ∧ (iR (μ kb v3) ∧ iR v1 ∧ ((μ kb v3) ≠ v1 → K_X4_latest_8 G l (d + 1) P k ka kb kn v1 (v3 + (-1)) μ) ∧ ((μ kb v3) = v1 → P v3 μ)))))) : K_X4_latest_8 G l (d + 1) P k ka kb kn v1 v3 μ := by
  unfold K_X4_latest_8
  refine xr_iload_n dX4_latest_8 rfl ?_
  obtain ⟨q1, hT2, hF3⟩ := h
  refine xr_if_lt (tgt := 30) dX4_latest_9 (by decide) q1  (fun c => ?_) (fun c => ?_)
  · have h := hT2 c
    refine xr_iconst dX4_latest_30 ?_
    exact xr_iret dX4_latest_31 rfl ⟨rfl, _, rfl, (by decide), h⟩
  · have h := hF3 (Int.not_lt.mp c)
    refine xr_aload_n dX4_latest_12 rfl ?_
    refine xr_getR dX4_latest_13 fl_X4_21 hk rfl ?_
    refine xr_iload_n dX4_latest_16 rfl ?_
    obtain ⟨q4, h⟩ := h
    refine xr_iaload' (v := μ kb v3) dX4_latest_17 hkb rfl hkn q4 rfl ?_
    refine xr_iload_n dX4_latest_18 rfl ?_
    obtain ⟨q5, q6, hT7, hF8⟩ := h
    refine xr_icmp_ne (tgt := 24) dX4_latest_19 (by decide) q5 q6 (fun c => ?_) (fun c => ?_)
    · have h := hT7 c
      refine xr_iinc' (ll' := [some (xr G k), some (xi v1), none, some (xi (v3 + (-1)))]) dX4_latest_24 rfl (by decide) rfl rfl ?_
      refine xr_goto (tgt := 8) dX4_latest_27 (by decide) ?_
      exact h
    · have h := hF8 c
      refine xr_iload_n dX4_latest_22 rfl ?_
      exact xr_iret dX4_latest_23 rfl ⟨rfl, _, rfl, q1, h⟩
theorem dJ7_fill_53178_0 : decode cJ7_fill_53178 0 = .ok (.iconst 0, 1) := by decide +kernel
theorem dJ7_fill_53178_1 : decode cJ7_fill_53178 1 = .ok (.istore_n 2, 1) := by decide +kernel
theorem dJ7_fill_53178_2 : decode cJ7_fill_53178 2 = .ok (.aload_n 0, 1) := by decide +kernel
theorem dJ7_fill_53178_3 : decode cJ7_fill_53178 3 = .ok (.arraylength, 1) := by decide +kernel
theorem dJ7_fill_53178_4 : decode cJ7_fill_53178 4 = .ok (.istore_n 3, 1) := by decide +kernel
theorem dJ7_fill_53178_5 : decode cJ7_fill_53178 5 = .ok (.iload_n 2, 1) := by decide +kernel
theorem dJ7_fill_53178_6 : decode cJ7_fill_53178 6 = .ok (.iload_n 3, 1) := by decide +kernel
theorem dJ7_fill_53178_7 : decode cJ7_fill_53178 7 = .ok (.if_icmp .ge 13, 3) := by decide +kernel
theorem dJ7_fill_53178_10 : decode cJ7_fill_53178 10 = .ok (.aload_n 0, 1) := by decide +kernel
theorem dJ7_fill_53178_11 : decode cJ7_fill_53178 11 = .ok (.iload_n 2, 1) := by decide +kernel
theorem dJ7_fill_53178_12 : decode cJ7_fill_53178 12 = .ok (.iload_n 1, 1) := by decide +kernel
theorem dJ7_fill_53178_13 : decode cJ7_fill_53178 13 = .ok (.iastore, 1) := by decide +kernel
theorem dJ7_fill_53178_14 : decode cJ7_fill_53178 14 = .ok (.iinc 2 1, 3) := by decide +kernel
theorem dJ7_fill_53178_17 : decode cJ7_fill_53178 17 = .ok (.goto (-12), 3) := by decide +kernel
theorem dJ7_fill_53178_20 : decode cJ7_fill_53178 20 = .ok (.return_, 1) := by decide +kernel
def K_J7_fill_53178_5 (G : xG) (l : Launch) (d : Nat) (P : xMem → Prop) (k0 : Nat) (n0 : Nat) (v1 v2 v3 : Int) (μ : xMem) : Prop := RR G l d 0 0 false mJ7_fill_53178 (qV P) 5 [some (xr G k0), some (xi v1), some (xi v2), some (xi v3)] [] LAY μ 0 0
set_option maxRecDepth 20000 in
theorem E_J7_fill_53178 {G : xG} {l : Launch} {d : Nat} {P : xMem → Prop} {k0 : Nat} {n0 : Nat} (hk0 : LAY[k0]? = some (.inl (0, n0))) (hn0 : n0 < 2147483648) {v1 : Int} {μ : xMem} (h : K_J7_fill_53178_5 G l (d + 1) P k0 n0 v1 0 (n0 : Int) μ) : CV G l (d + 1) mJ7_fill_53178 [xr G k0, xi v1] μ P := by
  refine CC.ofRR (ll := [some (xr G k0), some (xi v1), none, none]) (by decide +kernel) (Nat.le_of_ble_eq_true rfl) rfl (fun h => by cases h) ?_
  refine xr_iconst dJ7_fill_53178_0 ?_
  refine xr_istore_n' (ll' := [some (xr G k0), some (xi v1), some (xi 0), none]) dJ7_fill_53178_1 (by decide) rfl rfl ?_
  refine xr_aload_n dJ7_fill_53178_2 rfl ?_
  refine xr_alen dJ7_fill_53178_3 hk0 (by decide) rfl ?_
  refine xr_istore_n' (ll' := [some (xr G k0), some (xi v1), some (xi 0), some (xi (n0 : Int))]) dJ7_fill_53178_4 (by decide) rfl rfl ?_
  exact h
set_option maxRecDepth 20000 in
theorem B_J7_fill_53178_5 {G : xG} {l : Launch} {d : Nat} {P : xMem → Prop} {k0 : Nat} {n0 : Nat} (hk0 : LAY[k0]? = some (.inl (0, n0))) (hn0 : n0 < 2147483648) {v1 v2 v3 : Int} {μ : xMem} (h : (iR v2 ∧ iR v3 ∧ (v3 ≤ v2 → P μ) ∧ (v2 < v3 → ((0 ≤ v2 ∧ v2 < (n0 : Int)) ∧ K_J7_fill_53178_5 G l (d + 1) P k0 n0 v1 (v2 + 1) v3 (st2 μ k0 v2 v1))))) : K_J7_fill_53178_5 G l (d + 1) P k0 n0 v1 v2 v3 μ := by
  unfold K_J7_fill_53178_5
  refine xr_iload_n dJ7_fill_53178_5 rfl ?_
  refine xr_iload_n dJ7_fill_53178_6 rfl ?_
  obtain ⟨q1, q2, hT3, hF4⟩ := h
  refine xr_icmp_ge (tgt := 20) dJ7_fill_53178_7 (by decide) q1 q2 (fun c => ?_) (fun c => ?_)
  · have h := hT3 c
    exact xr_ret dJ7_fill_53178_20 rfl ⟨rfl, rfl, h⟩
  · have h := hF4 (Int.not_le.mp c)
    refine xr_aload_n dJ7_fill_53178_10 rfl ?_
    refine xr_iload_n dJ7_fill_53178_11 rfl ?_
    refine xr_iload_n dJ7_fill_53178_12 rfl ?_
    obtain ⟨q5, h⟩ := h
    refine xr_iastore dJ7_fill_53178_13 hk0 rfl hn0 q5 ?_
    refine xr_iinc' (ll' := [some (xr G k0), some (xi v1), some (xi (v2 + 1)), some (xi v3)]) dJ7_fill_53178_14 rfl (by decide) rfl rfl ?_
    refine xr_goto (tgt := 5) dJ7_fill_53178_17 (by decide) ?_
    exact h
theorem dJ7_fill_d0a16_0 : decode cJ7_fill_d0a16 0 = .ok (.iconst 0, 1) := by decide +kernel
theorem dJ7_fill_d0a16_1 : decode cJ7_fill_d0a16 1 = .ok (.istore_n 3, 1) := by decide +kernel
theorem dJ7_fill_d0a16_2 : decode cJ7_fill_d0a16 2 = .ok (.aload_n 0, 1) := by decide +kernel
theorem dJ7_fill_d0a16_3 : decode cJ7_fill_d0a16 3 = .ok (.arraylength, 1) := by decide +kernel
theorem dJ7_fill_d0a16_4 : decode cJ7_fill_d0a16 4 = .ok (.istore 4, 2) := by decide +kernel
theorem dJ7_fill_d0a16_6 : decode cJ7_fill_d0a16 6 = .ok (.iload_n 3, 1) := by decide +kernel
theorem dJ7_fill_d0a16_7 : decode cJ7_fill_d0a16 7 = .ok (.iload 4, 2) := by decide +kernel
theorem dJ7_fill_d0a16_9 : decode cJ7_fill_d0a16 9 = .ok (.if_icmp .ge 13, 3) := by decide +kernel
theorem dJ7_fill_d0a16_12 : decode cJ7_fill_d0a16 12 = .ok (.aload_n 0, 1) := by decide +kernel
theorem dJ7_fill_d0a16_13 : decode cJ7_fill_d0a16 13 = .ok (.iload_n 3, 1) := by decide +kernel
theorem dJ7_fill_d0a16_14 : decode cJ7_fill_d0a16 14 = .ok (.lload_n 1, 1) := by decide +kernel
theorem dJ7_fill_d0a16_15 : decode cJ7_fill_d0a16 15 = .ok (.lastore, 1) := by decide +kernel
theorem dJ7_fill_d0a16_16 : decode cJ7_fill_d0a16 16 = .ok (.iinc 3 1, 3) := by decide +kernel
theorem dJ7_fill_d0a16_19 : decode cJ7_fill_d0a16 19 = .ok (.goto (-13), 3) := by decide +kernel
theorem dJ7_fill_d0a16_22 : decode cJ7_fill_d0a16 22 = .ok (.return_, 1) := by decide +kernel
def K_J7_fill_d0a16_6 (G : xG) (l : Launch) (d : Nat) (P : xMem → Prop) (k0 : Nat) (n0 : Nat) (v1 v3 v4 : Int) (μ : xMem) : Prop := RR G l d 0 0 false mJ7_fill_d0a16 (qV P) 6 [some (xr G k0), some (xl v1), none, some (xi v3), some (xi v4)] [] LAY μ 0 0
set_option maxRecDepth 20000 in
theorem E_J7_fill_d0a16 {G : xG} {l : Launch} {d : Nat} {P : xMem → Prop} {k0 : Nat} {n0 : Nat} (hk0 : LAY[k0]? = some (.inl (3, n0))) (hn0 : n0 < 2147483648) {v1 : Int} {μ : xMem} (h : K_J7_fill_d0a16_6 G l (d + 1) P k0 n0 v1 0 (n0 : Int) μ) : CV G l (d + 1) mJ7_fill_d0a16 [xr G k0, xl v1] μ P := by
  refine CC.ofRR (ll := [some (xr G k0), some (xl v1), none, none, none]) (by decide +kernel) (Nat.le_of_ble_eq_true rfl) rfl (fun h => by cases h) ?_
  refine xr_iconst dJ7_fill_d0a16_0 ?_
  refine xr_istore_n' (ll' := [some (xr G k0), some (xl v1), none, some (xi 0), none]) dJ7_fill_d0a16_1 (by decide) rfl rfl ?_
  refine xr_aload_n dJ7_fill_d0a16_2 rfl ?_
  refine xr_alen dJ7_fill_d0a16_3 hk0 (by decide) rfl ?_
  refine xr_istore' (ll' := [some (xr G k0), some (xl v1), none, some (xi 0), some (xi (n0 : Int))]) dJ7_fill_d0a16_4 (by decide) rfl rfl ?_
  exact h
set_option maxRecDepth 20000 in
theorem B_J7_fill_d0a16_6 {G : xG} {l : Launch} {d : Nat} {P : xMem → Prop} {k0 : Nat} {n0 : Nat} (hk0 : LAY[k0]? = some (.inl (3, n0))) (hn0 : n0 < 2147483648) {v1 v3 v4 : Int} {μ : xMem} (h : (iR v3 ∧ iR v4 ∧ (v4 ≤ v3 → P μ) ∧ (v3 < v4 → ((0 ≤ v3 ∧ v3 < (n0 : Int)) ∧ K_J7_fill_d0a16_6 G l (d + 1) P k0 n0 v1 (v3 + 1) v4 (st2 μ k0 v3 v1))))) : K_J7_fill_d0a16_6 G l (d + 1) P k0 n0 v1 v3 v4 μ := by
  unfold K_J7_fill_d0a16_6
  refine xr_iload_n dJ7_fill_d0a16_6 rfl ?_
  refine xr_iload dJ7_fill_d0a16_7 rfl ?_
  obtain ⟨q1, q2, hT3, hF4⟩ := h
  refine xr_icmp_ge (tgt := 22) dJ7_fill_d0a16_9 (by decide) q1 q2 (fun c => ?_) (fun c => ?_)
  · have h := hT3 c
    exact xr_ret dJ7_fill_d0a16_22 rfl ⟨rfl, rfl, h⟩
  · have h := hF4 (Int.not_le.mp c)
    refine xr_aload_n dJ7_fill_d0a16_12 rfl ?_
    refine xr_iload_n dJ7_fill_d0a16_13 rfl ?_
    refine xr_lload_n dJ7_fill_d0a16_14 rfl ?_
    obtain ⟨q5, h⟩ := h
    refine xr_lastore dJ7_fill_d0a16_15 hk0 rfl hn0 q5 ?_
    refine xr_iinc' (ll' := [some (xr G k0), some (xl v1), none, some (xi (v3 + 1)), some (xi v4)]) dJ7_fill_d0a16_16 rfl (by decide) rfl rfl ?_
    refine xr_goto (tgt := 6) dJ7_fill_d0a16_19 (by decide) ?_
    exact h
end Blk20_bX4
