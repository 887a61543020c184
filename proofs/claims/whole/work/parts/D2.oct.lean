/-! octet, told: the class's, the law's catch, the model's -/
section Oct
variable {G : xG} {l : Launch} {d mc ms pc bc bs : Nat} {z : Bool} {mt : xMT} {tb : List ExceptionTableEntry → Prop} {Z : List Frame → Array Value → State → State → Prop} {ll : xLL} {st : List Value} {lay : List xLay} {μ m : xMem} {P : Int → xMem → Prop}
abbrev mL_octet : xMT := (yL_octet, cL_octet, 4, some .int, false)
abbrev mL_told : xMT := (yL_told, cL_told, 5, some .int, false)
theorem xz_getI {k ci j index : Nat} {J : Int} {fs : List (Option (Option Nat))} (hd : decode mt.2.1 pc = .ok (.getfield index, 3)) (hF : xFl mt.1.cls index ci j) (hL : lay[k]? = some (.inr (ci, fs))) (hv : fs[j]? = some none) (hJ : (j : Int) = J)
    (K : RZ G l d mc ms z mt tb Z (pc + 3) ll (xi (μ k J) :: st) lay μ bc bs) : RZ G l d mc ms z mt tb Z pc ll (xr G k :: st) lay μ bc bs := by
  subst hJ
  exact xz_get hd hF hL hv K
theorem xz_getR {k r ci j index : Nat} {fs : List (Option (Option Nat))} (hd : decode mt.2.1 pc = .ok (.getfield index, 3)) (hF : xFl mt.1.cls index ci j) (hL : lay[k]? = some (.inr (ci, fs))) (hv : fs[j]? = some (some (some r)))
    (K : RZ G l d mc ms z mt tb Z (pc + 3) ll (xr G r :: st) lay μ bc bs) : RZ G l d mc ms z mt tb Z pc ll (xr G k :: st) lay μ bc bs := xz_get hd hF hL hv K
def inO (μ : xMem) (k : Int) : Prop := 0 ≤ k ∧ k < μ 0 4
theorem met_octet {k : Int} (hl : l.stackTraces = false) (hk : iR k) (h36 : 0 ≤ μ 0 4 ∧ μ 0 4 ≤ 36) (hv : ∀ i, 0 ≤ i → i < μ 0 4 → iR (μ 2 i)) : vx_Met l mX11_octet.1 (.code mX11_octet.1 mX11_octet.2.1 mX11_octet.2.2.1 mX11_octet.2.2.2.1 :: xTs) (rmo (d + 10) 1 6) (va_Pc [xr G 0, xi k] (WD G false LAY μ)) (QcR G false (qI (fun r m => inO μ k ∧ r = μ 2 k ∧ m = μ))) (xEx G (¬ inO μ k) LAY μ) 1 6 (xA G) := by
  refine vx_ofRZ (ll := [some (xr G 0), some (xi k)]) (by decide +kernel) (Nat.le_of_ble_eq_true rfl) rfl (fun h => by cases h) ?_
  have thr : ¬ inO μ k → RZ G l (d + 10) 1 6 false mX11_octet (fun L => ∀ x ∈ L, False) (fun below args s => vx_MQ below (QcR G false (qI (fun r m => inO μ k ∧ r = μ 2 k ∧ m = μ))) (xEx G (¬ inO μ k) LAY μ) args s 1 6 (xA G)) 12 [some (xr G 0), some (xi k)] [] LAY μ 1 6 := fun hw =>
    xz_throw (names := NSN) hl hw dX11_octet_12 dX11_octet_15 dX11_octet_16 dX11_octet_19 ne_fit ne_cl ne_ini ne_at ne_good (by show 2 + 3 < d + 10; omega) (by show 13 * (2 + 1) + 42 ≤ 64 * (d + 10); omega) (Nat.le_refl 1) (Nat.le_refl 6)
  refine xz_iload_n dX11_octet_0 rfl ?_
  refine xz_if_lt (tgt := 12) dX11_octet_1 (by decide) hk (fun c => thr (fun q => by have := q.1; omega)) (fun c => ?_)
  refine xz_iload_n dX11_octet_4 rfl ?_
  refine xz_aload_n dX11_octet_5 rfl ?_
  refine xz_getI (J := 4) dX11_octet_6 fl_X11_141 L_0 rfl rfl ?_
  refine xz_icmp_lt (tgt := 20) dX11_octet_9 (by decide) hk (by omega) (fun c2 => ?_) (fun c2 => thr (fun q => by have := q.2; omega))
  refine RZ.ofRR ?_
  refine xr_aload_n dX11_octet_20 rfl ?_
  refine xr_getR dX11_octet_21 fl_X11_13 L_0 rfl ?_
  refine xr_iload_n dX11_octet_24 rfl ?_
  refine xr_iaload' (v := μ 2 k) (N := 36) dX11_octet_25 L_2 rfl (by decide) (by omega) rfl ?_
  exact xr_iret dX11_octet_26 rfl ⟨rfl, _, rfl, hv k (by omega) c2, ⟨by omega, c2⟩, rfl, rfl⟩
theorem met_Loctet {k : Int} (hl : l.stackTraces = false) (hk : iR k) (h36 : 0 ≤ μ 0 4 ∧ μ 0 4 ≤ 36) (hv : ∀ i, 0 ≤ i → i < μ 0 4 → iR (μ 2 i)) : vx_Met l mL_octet.1 (.codeWith mL_octet.1 mL_octet.2.1 mL_octet.2.2.1 mL_octet.2.2.2.1 [(0, 9, 12, 13)] :: xTs) (rmo (d + 11) 1 6) (va_Pc [xr G 0, xi k, xr G 130] (WD G false LAY μ)) (QcR G false (fun r lay m => lay = LAY ∧ ((inO μ k ∧ r = some (xi 0) ∧ m = st2 μ 130 0 (μ 2 k)) ∨ (¬ inO μ k ∧ r = some (xi 1) ∧ m = μ)))) (fun _ _ _ => False) 1 6 (xA G) := by
  refine vx_ofRZW (hh := [(0, 9, 12, 13)]) (ll := [some (xr G 0), some (xi k), some (xr G 130), none]) (by decide +kernel) (Nat.le_of_ble_eq_true rfl) rfl (fun h => by cases h) ?_
  refine xz_aload_n dL_octet_0 rfl ?_
  refine xz_iconst dL_octet_1 ?_
  refine xz_aload_n dL_octet_2 rfl ?_
  refine xz_iload_n dL_octet_3 rfl ?_
  refine xz_callX (As := [xi k]) (x := { startPc := 0, endPc := 9, handlerPc := 12, catchType := 13 }) (d' := d + 10) (mc' := 1) (ms' := 6) dL_octet_4 mi_X11_octet ml_L_7 se_X11_octet L_0 rfl rfl rfl (Nat.le_of_ble_eq_true rfl) (by omega) (Nat.le_refl 1) (Nat.le_refl 6) (met_octet hl hk h36 hv) (fun L h => h.trans rfl) rfl (by decide) ne_cl2 ?_ ?_
  · rintro r lay' μ' ⟨rfl, x, rfl, hx, hin, rfl, rfl⟩
    refine RZ.ofRR ?_
    refine xr_i2l dL_octet_7 hx ?_
    refine xr_lastore (N := 1) dL_octet_8 L_130 rfl (by decide) (by decide) ?_
    refine xr_goto (tgt := 15) dL_octet_9 (by decide) ?_
    refine xr_iconst dL_octet_15 ?_
    exact xr_iret dL_octet_16 rfl ⟨rfl, Or.inl ⟨hin, rfl, rfl⟩⟩
  · intro hw a
    refine xz_astA dL_octet_12 (by decide) rfl ?_
    refine RZ.ofRR ?_
    refine xr_iconst dL_octet_13 ?_
    exact xr_iret dL_octet_14 rfl ⟨rfl, Or.inr ⟨hw, rfl, rfl⟩⟩
def inT (μ : xMem) (k f : Int) : Prop := (0 ≤ k ∧ k < μ 64 5) ∧ 0 ≤ f ∧ f ≤ 1
def vaT (μ : xMem) (k f : Int) : Int := if f = 0 then μ 65 k else μ 66 k
theorem met_told {k f : Int} (hl : l.stackTraces = false) (hk : iR k) (hf : iR f) (h80 : 0 ≤ μ 64 5 ∧ μ 64 5 ≤ 80) (hv : ∀ i, 0 ≤ i → i < μ 64 5 → iR (μ 65 i) ∧ iR (μ 66 i)) : vx_Met l mX11_told.1 (.code mX11_told.1 mX11_told.2.1 mX11_told.2.2.1 mX11_told.2.2.2.1 :: xTs) (rmo (d + 10) 1 6) (va_Pc [xr G 0, xi k, xi f] (WD G false LAY μ)) (QcR G false (qI (fun r m => inT μ k f ∧ r = vaT μ k f ∧ m = μ))) (xEx G (¬ inT μ k f) LAY μ) 1 6 (xA G) := by
  refine vx_ofRZ (ll := [some (xr G 0), some (xi k), some (xi f)]) (by decide +kernel) (Nat.le_of_ble_eq_true rfl) rfl (fun h => by cases h) ?_
  have thr : ¬ inT μ k f → RZ G l (d + 10) 1 6 false mX11_told (fun L => ∀ x ∈ L, False) (fun below args s => vx_MQ below (QcR G false (qI (fun r m => inT μ k f ∧ r = vaT μ k f ∧ m = μ))) (xEx G (¬ inT μ k f) LAY μ) args s 1 6 (xA G)) 24 [some (xr G 0), some (xi k), some (xi f)] [] LAY μ 1 6 := fun hw =>
    xz_throw (names := NSN) hl hw dX11_told_24 dX11_told_27 dX11_told_28 dX11_told_31 ne_fit ne_cl ne_ini ne_at ne_good (by show 2 + 3 < d + 10; omega) (by show 13 * (2 + 1) + 42 ≤ 64 * (d + 10); omega) (Nat.le_refl 1) (Nat.le_refl 6)
  refine xz_iload_n dX11_told_0 rfl ?_
  refine xz_if_lt (tgt := 24) dX11_told_1 (by decide) hk (fun c => thr (fun q => by have := q.1.1; omega)) (fun c => ?_)
  refine xz_iload_n dX11_told_4 rfl ?_
  refine xz_aload_n dX11_told_5 rfl ?_
  refine xz_getR dX11_told_6 fl_X11_67 L_0 rfl ?_
  refine xz_getI (J := 5) dX11_told_9 fl_X11_191 L_64 rfl rfl ?_
  refine xz_icmp_ge (tgt := 24) dX11_told_12 (by decide) hk (by omega) (fun c2 => thr (fun q => by have := q.1.2; omega)) (fun c2 => ?_)
  refine xz_iload_n dX11_told_15 rfl ?_
  refine xz_if_lt (tgt := 24) dX11_told_16 (by decide) hf (fun c => thr (fun q => by have := q.2.1; omega)) (fun c3 => ?_)
  refine xz_iload_n dX11_told_19 rfl ?_
  refine xz_iconst dX11_told_20 ?_
  refine xz_icmp_le (tgt := 32) dX11_told_21 (by decide) hf (by decide) (fun c4 => ?_) (fun c4 => thr (fun q => c4 q.2.2))
  have hv1 := hv k (by omega) (by omega)
  have hin : inT μ k f := ⟨⟨by omega, by omega⟩, by omega, c4⟩
  refine RZ.ofRR ?_
  refine xr_iload_n dX11_told_32 rfl ?_
  refine xr_if_ne (tgt := 48) dX11_told_33 (by decide) hf (fun c5 => ?_) (fun c5 => ?_)
  · refine xr_aload_n dX11_told_48 rfl ?_
    refine xr_getR dX11_told_49 fl_X11_67 L_0 rfl ?_
    refine xr_getR dX11_told_52 fl_X11_197 L_64 rfl ?_
    refine xr_iload_n dX11_told_55 rfl ?_
    refine xr_iaload' (v := μ 66 k) (N := 80) dX11_told_56 L_66 rfl (by decide) (by omega) rfl ?_
    exact xr_iret dX11_told_57 rfl ⟨rfl, _, rfl, hv1.2, hin, (if_neg c5).symm, rfl⟩
  · refine xr_aload_n dX11_told_36 rfl ?_
    refine xr_getR dX11_told_37 fl_X11_67 L_0 rfl ?_
    refine xr_getR dX11_told_40 fl_X11_194 L_64 rfl ?_
    refine xr_iload_n dX11_told_43 rfl ?_
    refine xr_iaload' (v := μ 65 k) (N := 80) dX11_told_44 L_65 rfl (by decide) (by omega) rfl ?_
    refine xr_goto (tgt := 57) dX11_told_45 (by decide) ?_
    exact xr_iret dX11_told_57 rfl ⟨rfl, _, rfl, hv1.1, hin, (if_pos c5).symm, rfl⟩
theorem met_Ltold {k f : Int} (hl : l.stackTraces = false) (hk : iR k) (hf : iR f) (h80 : 0 ≤ μ 64 5 ∧ μ 64 5 ≤ 80) (hv : ∀ i, 0 ≤ i → i < μ 64 5 → iR (μ 65 i) ∧ iR (μ 66 i)) : vx_Met l mL_told.1 (.codeWith mL_told.1 mL_told.2.1 mL_told.2.2.1 mL_told.2.2.2.1 [(0, 10, 13, 13)] :: xTs) (rmo (d + 11) 1 6) (va_Pc [xr G 0, xi k, xi f, xr G 130] (WD G false LAY μ)) (QcR G false (fun r lay m => lay = LAY ∧ ((inT μ k f ∧ r = some (xi 0) ∧ m = st2 μ 130 0 (vaT μ k f)) ∨ (¬ inT μ k f ∧ r = some (xi 1) ∧ m = μ)))) (fun _ _ _ => False) 1 6 (xA G) := by
  refine vx_ofRZW (hh := [(0, 10, 13, 13)]) (ll := [some (xr G 0), some (xi k), some (xi f), some (xr G 130), none]) (by decide +kernel) (Nat.le_of_ble_eq_true rfl) rfl (fun h => by cases h) ?_
  refine xz_aload_n dL_told_0 rfl ?_
  refine xz_iconst dL_told_1 ?_
  refine xz_aload_n dL_told_2 rfl ?_
  refine xz_iload_n dL_told_3 rfl ?_
  refine xz_iload_n dL_told_4 rfl ?_
  refine xz_callX (As := [xi k, xi f]) (x := { startPc := 0, endPc := 10, handlerPc := 13, catchType := 13 }) (d' := d + 10) (mc' := 1) (ms' := 6) dL_told_5 mi_X11_told ml_L_15 se_X11_told L_0 rfl rfl rfl (Nat.le_of_ble_eq_true rfl) (by omega) (Nat.le_refl 1) (Nat.le_refl 6) (met_told hl hk hf h80 hv) (fun L h => h.trans rfl) rfl (by decide) ne_cl2 ?_ ?_
  · rintro r lay' μ' ⟨rfl, x, rfl, hx, hin, rfl, rfl⟩
    refine RZ.ofRR ?_
    refine xr_i2l dL_told_8 hx ?_
    refine xr_lastore (N := 1) dL_told_9 L_130 rfl (by decide) (by decide) ?_
    refine xr_goto (tgt := 17) dL_told_10 (by decide) ?_
    refine xr_iconst dL_told_17 ?_
    exact xr_iret dL_told_18 rfl ⟨rfl, Or.inl ⟨hin, rfl, rfl⟩⟩
  · intro hw a
    refine xz_astA' dL_told_13 (by decide) rfl ?_
    refine RZ.ofRR ?_
    refine xr_iconst dL_told_15 ?_
    exact xr_iret dL_told_16 rfl ⟨rfl, Or.inr ⟨hw, rfl, rfl⟩⟩
/-- the model's -/
theorem s_throwsIf {v : Int} (hv : v = 0 ∨ v = 1) (h : P v (st2 m 74 0 v)) : CI G l (d + 1) mX12_throwsIf [xr G 74, xi v] m P := by
  apply E_X12_throwsIf
  refine ⟨by omega, fun q => ⟨hv, ?_⟩, fun q => ⟨hv, ?_⟩⟩
  · subst q; exact h
  · have : v = 1 := by omega
    subst this; exact h
theorem s_mOctet {k n : Int} (hk : iR k) (e54 : m 74 54 = n) (hn : 0 ≤ n ∧ n ≤ 36) (hv : ∀ i, 0 ≤ i → i < n → iR (m 107 i)) (h1 : (0 ≤ k ∧ k < n) → P (m 107 k) (st2 m 74 0 0)) (h2 : ¬ (0 ≤ k ∧ k < n) → P 0 (st2 m 74 0 1)) : CI G l (d + 2) mX12_octet [xr G 74, xi k] m P := by
  have bad : ¬ (0 ≤ k ∧ k < n) → K_X12_octet_18 G l (d + 2) P k 1 m := fun q => by
    apply B_X12_octet_18
    exact s_throwsIf (Or.inr rfl) ⟨fun q2 => absurd q2 (by decide), fun _ => h2 q⟩
  apply E_X12_octet
  rw [e54]
  refine ⟨hk, fun q => bad (by omega), fun q => ⟨by omega, fun q2 => ?_, fun q2 => bad (by omega)⟩⟩
  apply B_X12_octet_18
  refine s_throwsIf (Or.inl rfl) ⟨fun _ => ⟨by omega, ?_⟩, fun q3 => absurd rfl q3⟩
  rw [st_n _ _ _ _ _ _ (show (107 : Nat) ≠ 74 by decide)]
  exact ⟨hv k q q2, h1 ⟨q, q2⟩⟩
theorem s_mTold {k f n : Int} (hk : iR k) (hf : iR f) (e76 : m 74 76 = n) (hn : 0 ≤ n ∧ n ≤ 80) (hv : ∀ i, 0 ≤ i → i < n → iR (m 124 i) ∧ iR (m 125 i)) (h1 : ((0 ≤ k ∧ k < n) ∧ 0 ≤ f ∧ f ≤ 1) → P (if f = 0 then m 124 k else m 125 k) (st2 m 74 0 0)) (h2 : ¬ ((0 ≤ k ∧ k < n) ∧ 0 ≤ f ∧ f ≤ 1) → P 0 (st2 m 74 0 1)) : CI G l (d + 2) mX12_told [xr G 74, xi k, xi f] m P := by
  have bad : ¬ ((0 ≤ k ∧ k < n) ∧ 0 ≤ f ∧ f ≤ 1) → K_X12_told_27 G l (d + 2) P k f 1 m := fun q => by
    apply B_X12_told_27
    exact s_throwsIf (Or.inr rfl) ⟨fun q2 => absurd q2 (by decide), fun _ => h2 q⟩
  apply E_X12_told
  rw [e76]
  refine ⟨hk, fun q => bad (by omega), fun q => ⟨by omega, fun q2 => bad (by omega), fun q2 => ⟨hf, fun q3 => bad (by omega), fun q3 => ⟨fun q4 => ?_, fun q4 => bad (by omega)⟩⟩⟩⟩
  have hh := h1 ⟨⟨q, q2⟩, q3, q4⟩
  have hv1 := hv k q q2
  apply B_X12_told_27
  refine s_throwsIf (Or.inl rfl) ⟨fun _ => ⟨hf, fun q5 => ?_, fun q5 => ?_⟩, fun q3 => absurd rfl q3⟩
  · rw [if_neg q5] at hh
    rw [st_n _ _ _ _ _ _ (show (125 : Nat) ≠ 74 by decide)]
    exact ⟨by omega, hv1.2, hh⟩
  · rw [if_pos q5] at hh
    rw [st_n _ _ _ _ _ _ (show (124 : Nat) ≠ 74 by decide)]
    exact ⟨by omega, hv1.1, hh⟩
theorem s_thrown (hv : iR (m 74 0)) (h : P (m 74 0) m) : CI G l (d + 1) mX12_thrown [xr G 74] m P := by
  apply E_X12_thrown
  exact ⟨hv, h⟩
end Oct
