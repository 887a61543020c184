/-! the law from its entry: what it makes, then its loop -/
section StartL
variable {G : xG} {l : Launch} {d mc ms pc bc bs : Nat} {z : Bool} {mt : xMT} {tb : List ExceptionTableEntry → Prop} {Z : List Frame → Array Value → State → State → Prop} {Q : Option Value → List xLay → xMem → Prop} {ll : xLL} {st : List Value} {lay : List xLay} {μ : xMem}
theorem xz_dup {v : Value} (hd : decode mt.2.1 pc = .ok (.dup, 1)) (hc : v.category = 1) (k : RZ G l d mc ms z mt tb Z (pc + 1) ll (v :: v :: st) lay μ bc bs) : RZ G l d mc ms z mt tb Z pc ll (v :: st) lay μ bc bs := by
  intro p e s m args below meth c hC ht9 H locs cells slots ls hz hP hS h1 h2 hl
  exact lv_dup hC.1 hC.2.1 hd hc (k p e s m args below meth c hC ht9 H locs cells slots ls hz hP hS h1 h2 hl)
theorem xz_astore_n {n : Fin 4} {x : Nat} (hd : decode mt.2.1 pc = .ok (.astore_n n, 1)) (hi : (n : Nat) < mt.2.2.1) (hk : x_chk ll n = true) (k : RZ G l d mc ms z mt tb Z (pc + 1) (ll.set n (some (xr G x))) st lay μ bc bs) : RZ G l d mc ms z mt tb Z pc ll (xr G x :: st) lay μ bc bs := by
  intro p e s m args below meth c hC ht9 H locs cells slots ls hz hP hS h1 h2 hl
  exact lv_astore_n hC.1 hC.2.1 hd rfl hl hi rfl (fun ls' h' => k p e s m args below meth c hC ht9 H locs cells slots ls' hz hP hS h1 h2 (x_set1 hk h'))
theorem xz_istore {i : Nat} {x : Int} (hd : decode mt.2.1 pc = .ok (.istore i, 2)) (hi : i < mt.2.2.1) (hk : x_chk ll i = true) (k : RZ G l d mc ms z mt tb Z (pc + 2) (ll.set i (some (xi x))) st lay μ bc bs) : RZ G l d mc ms z mt tb Z pc ll (xi x :: st) lay μ bc bs := by
  intro p e s m args below meth c hC ht9 H locs cells slots ls hz hP hS h1 h2 hl
  exact lv_istore hC.1 hC.2.1 hd hl hi rfl (fun ls' h' => k p e s m args below meth c hC ht9 H locs cells slots ls' hz hP hS h1 h2 (x_set1 hk h'))
theorem xz_after {p : Program} {e : Jvm.Env} {s : State} {m : MethodId} {args : Array Value} {below : List Frame} {meth : Method} {c : Code} {H : Heap} {locs : List Loc} {cells slots mc' ms' : Nat} {ls : Array Slot} {st0 : List Value} {Q' : Option Value → List xLay → xMem → Prop} {a : Array Value}
    (hC : xCx G mt p s m args meth c) (ht9 : tb c.exceptionTable.toList) (hS : va_S (xA G) s.heap H locs) (h1 : cells + bc ≤ mc) (h2 : slots + bs ≤ ms) (hb1 : mc' ≤ bc) (hb2 : ms' ≤ bs) (hl : lv_has ls mt.2.2.1 (prs 0 ll))
    (hr : va_Run p l e (rmo d mc ms) s m args below meth c H locs cells slots mc' ms' (F0 m pc ls st0) st (QcR G z Q' a) (xA G))
    (K : ∀ r lay' μ', Q' r lay' μ' → RZ G l d mc ms z mt tb Z (pc + 3) ll (r.toList ++ st) lay' μ' (bc - mc') (bs - ms')) :
    W p l e (rmo d mc ms) s m args below meth c H locs cells slots (Z below args s) (F0 m pc ls st0) := by
  intro T hT X
  obtain ⟨v, st₀, t, T', L, h0, X', hL, e1, e2, ⟨r, lay', μ', hv, hq, hW, hF⟩, hst⟩ := hr T hT X
  cases hv
  have hz1 := hW.1
  have hP1 := hW.2.1
  rw [← e1] at hz1 hP1
  obtain ⟨hF1, hF2⟩ := hF
  rw [h0, ← e1] at hF1 hF2
  obtain ⟨t2, a1, b1⟩ := K v lay' μ' hq p e s m args below meth c hC ht9 T'.heap (locs ++ L) (cells + mc') (slots + ms') ls hz1 hP1
    ⟨Nat.le_trans hS.1 hF1, fun q g1 g2 => (hF2 q (Nat.lt_of_lt_of_le g1 hS.1) g2).trans (hS.2.1 q g1 g2), fun q hq => by
      rcases List.mem_append.mp hq with h | h
      · exact hS.2.2 q h
      · exact hL q h⟩ (by omega) (by omega) hl T' rfl X'
  exact ⟨t2, hst t2 a1, b1⟩
theorem xz_callI {k index n d' mc' ms' : Nat} {As : List Value} {mt' : xMT} {Q' : Option Value → List xLay → xMem → Prop} {st0 : List Value} (hd : decode mt.2.1 pc = .ok (.invokespecial index, 3)) (hM : xMi mt' n) (hret : mt'.2.2.2.1 = none) (hnm : mt'.1.name = "<init>") (hlink : Cond.methodLink mt.1.cls index mt'.1 ∈ xTs ∨ ∃ host : String, Cond.methodLinkNest mt.1.cls index mt'.1 host ∈ xTn)
    (hn : As.length = n) (hst : st0 = As.reverse ++ xr G k :: st) (hw : (st.map fun v => v.category).sum ≤ 8) (hdd : d' + 1 ≤ d) (hb1 : mc' ≤ bc) (hb2 : ms' ≤ bs)
    (hc1 : CC G l d' mc' ms' z mt' (xr G k :: As) lay μ Q') (K : ∀ r lay' μ', Q' r lay' μ' → RZ G l d mc ms z mt tb Z (pc + 3) ll (r.toList ++ st) lay' μ' (bc - mc') (bs - ms')) : RZ G l d mc ms z mt tb Z pc ll st0 lay μ bc bs := by
  intro p e s m args below meth c hC ht9 H locs cells slots ls hz hP hS h1 h2 hl
  subst hst
  have hC0 := hC
  obtain ⟨hx, hb, -, hml, hown, hts, -, -, hK, hN, -, -⟩ := hC
  obtain ⟨m1, m2, m3, m4, m5, m6⟩ := hM
  rcases hlink with hlink | ⟨host, hlink⟩
  · have hcb : CallB (rmo d mc ms) s args mt.1.cls index mt'.1 mt'.2.1 mt'.2.2.1 none (.code mt'.1 mt'.2.1 mt'.2.2.1 mt'.2.2.2.1 :: xTs) (rmo d' mc' ms') mc' ms' n := by
      have h := x_callB (d := d) (mc := mc) (ms := ms) (mc' := mc') (ms' := ms') hts m2 m3 m4 m5 m6 hdd hlink
      rw [hret] at h ⊢
      exact h
    refine xz_after hC0 ht9 hS h1 h2 hb1 hb2 hl (va_runI (As := As) (rest := st) (b := G.1 + k) ⟨hx, hb, hml, hown, hts⟩ hc1 ⟨hcb, hnm, hts _ m1⟩ ⟨WD.blind, fun U hU hW => ⟨rfl, WD.of hC0 hz hP hS hU hW⟩⟩ rfl hn hl.1 rfl (lv_room hw) hd ⟨by show cells + mc' ≤ mc; omega, by show slots + ms' ≤ ms; omega⟩) K
  · have hcb : va_CN (rmo d mc ms) s args mt.1.cls index mt'.1 host mt'.2.1 mt'.2.2.1 none (.code mt'.1 mt'.2.1 mt'.2.2.1 mt'.2.2.2.1 :: xTs) (rmo d' mc' ms') mc' ms' n := by
      have h := x_callN (d := d) (mc := mc) (ms := ms) (mc' := mc') (ms' := ms') hts hN m2 m3 m4 m5 m6 hdd hlink
      rw [hret] at h ⊢
      exact h
    refine xz_after hC0 ht9 hS h1 h2 hb1 hb2 hl (va_runIN (As := As) (rest := st) (b := G.1 + k) ⟨hx, hb, hml, hown, hts⟩ hc1 ⟨hcb, hnm, hts _ m1⟩ ⟨WD.blind, fun U hU hW => ⟨rfl, WD.of hC0 hz hP hS hU hW⟩⟩ rfl hn hl.1 rfl (lv_room hw) hd ⟨by show cells + mc' ≤ mc; omega, by show slots + ms' ≤ ms; omega⟩) K
theorem xz_newarray {at9 : ArrayType} {t n : Nat} {x : Int} (hd : decode mt.2.1 pc = .ok (.newarray at9, 2)) (hw : Cond.arrayClass (newarray.typeOf at9) ∈ xTs) (hz9 : z = true) (hty : (xty G)[t]? = some (G.2.2.1 t, newarray.typeOf at9)) (hx : x = (n : Int)) (hn : n ≤ 1000000) (hb1 : 1 ≤ bc) (hb2 : n ≤ bs) (h0 : ∀ i, μ lay.length i = 0)
    (hcell : ∀ cA : ClassId, vp_cell cA (n, if t = 3 then .inr (.inl (fun _ => 0)) else .inl (fun _ => 0)) = arrV cA n (fun _ => defaultValue (newarray.typeOf at9)))
    (K : RZ G l d mc ms z mt tb Z (pc + 2) ll (xr G lay.length :: st) (lay ++ [.inl (t, n)]) μ (bc - 1) (bs - n)) : RZ G l d mc ms z mt tb Z pc ll (xi x :: st) lay μ bc bs := by
  intro p e s m args below meth c hC ht9 H locs cells slots ls hz hP hS h1 h2 hl
  have hC0 := hC
  obtain ⟨hx9, hb, -, -, hown, hts, -, -, hK, hN, -, hB⟩ := hC
  have hsz := hz.2 hz9
  have hxi : (Int32.ofInt x).toInt = x := x_ti (by omega)
  have hcb : componentBytes (newarray.typeOf at9) ≤ 8 := by cases at9 <;> decide
  refine va_newaK (N := n) hx9 hb (hts _ hw) rfl hd rfl (fun h => ?_) ?_ ?_ (by show cells + 1 ≤ mc; omega) (by show slots + n ≤ ms; omega) hsz fun H1 cA e1 z1 o1 hAr hNm => ?_
  · rw [x_lt0 (by omega)] at h; omega
  · rw [Int32.toNatClampNeg, hxi, hx]; rfl
  · exact Nat.le_trans (Nat.mul_le_mul hn hcb) (by decide)
  have hfc : s.vm.findClass ("[" ++ (newarray.typeOf at9).toString) = some (G.2.2.1 t) := by
    have h9 := (hK.2 t _ hty).2
    cases at9 <;> exact h9
  have hcA : cA = G.2.2.1 t := Option.some.inj (hNm.symm.trans hfc)
  subst hcA
  refine K p e s m args below meth c hC0 ht9 H1 locs (cells + 1) (slots + n) ls ⟨by rw [z1, List.length_append]; show G.1 + (lay.length + 1) ≤ _; omega, fun _ => by rw [z1, List.length_append]; show _ = G.1 + (lay.length + 1); omega⟩ (WP.push hsz hP (fun q hq => o1 q (by omega)) ?_) ⟨by rw [z1]; exact Nat.le_trans (hsz ▸ hS.1) (Nat.le_succ _), fun q g1 g2 => (o1 q (by have := hS.1; omega)).trans (hS.2.1 q g1 g2), hS.2.2⟩ (by omega) (by omega) hl
  show H1[G.1 + lay.length]? = some (vp_cell _ (n, if t = 3 then _ else _))
  rw [e1, ← hcell]
  congr 2
  have hz0 : μ lay.length = fun _ => 0 := funext h0
  by_cases h3 : t = 3
  · simp [h3, hz0]
  · simp [h3, hz0]
theorem xz_new {ci index N : Nat} {C : String} {T : u_T} {ty : Nat → FieldType} {fs : List (Option (Option Nat))} (hd : decode mt.2.1 pc = .ok (.new index, 3)) (hcl : Cond.classLink mt.1.cls index C ∈ xTs) (hins : Cond.instantiable C N ∈ xTs) (hini : Cond.initialized C ∈ xTs) (hc : vwCl[ci]? = some (C, T, N)) (hin : ∀ w ∈ u_ws C T N, w ∈ xTs) (hty : ∀ k, k < N → parseFieldDescriptor (T k).2.2.1 = some (ty k)) (hz9 : z = true) (hb1 : 1 ≤ bc) (hb2 : N ≤ bs) (h0 : ∀ i, μ lay.length i = 0)
    (hfs : ∀ j, j < N → defaultValue (ty j) = vp_V (flds G (fun _ => 0) 0 fs) j)
    (K : RZ G l d mc ms z mt tb Z (pc + 3) ll (xr G lay.length :: st) (lay ++ [.inr (ci, fs)]) μ (bc - 1) (bs - N)) : RZ G l d mc ms z mt tb Z pc ll st lay μ bc bs := by
  intro p e s m args below meth c hC ht9 H locs cells slots ls hz hP hS h1 h2 hl
  have hC0 := hC
  obtain ⟨hx9, hb, -, -, hown, hts, -, -, hK, hN, -, hB⟩ := hC
  have hsz := hz.2 hz9
  have hKn := hK.1 ci _ hc
  refine W.newcK hx9 hb hown (hts _ hcl) (hts _ hins) (hts _ hini) rfl hd (by show cells + 1 ≤ mc; omega) (by show slots + N ≤ ms; omega) hKn.2.1 hsz fun H1 kC hkC e1 z1 o1 => ?_
  refine K p e s m args below meth c hC0 ht9 H1 locs (cells + 1) (slots + N) ls ⟨by rw [z1, List.length_append]; show G.1 + (lay.length + 1) ≤ _; omega, fun _ => by rw [z1, List.length_append]; show _ = G.1 + (lay.length + 1); omega⟩ (WP.push hsz hP (fun q hq => o1 q (by omega)) ?_) ⟨by rw [z1]; exact Nat.le_trans (hsz ▸ hS.1) (Nat.le_succ _), fun q g1 g2 => (o1 q (by have := hS.1; omega)).trans (hS.2.1 q g1 g2), hS.2.2⟩ (by omega) (by omega) hl
  have hz0 : μ lay.length = fun _ => 0 := funext h0
  refine ⟨_, hc, ?_⟩
  rw [hz0]
  exact (u_born ty hts hin hKn hkC e1 hty).to hfs
theorem RZ.ofF (h : RZ G l d mc ms false mt tb Z pc ll st lay μ bc bs) : RZ G l d mc ms true mt tb Z pc ll st lay μ bc bs := by
  intro p e s m args below meth c hC ht9 H locs cells slots ls hz hP hS h1 h2 hl
  exact h p e s m args below meth c hC ht9 H locs cells slots ls ⟨hz.1, fun h => by cases h⟩ hP hS h1 h2 hl
theorem RZ.ofQ (h : RR G l d mc ms z mt Q pc ll st lay μ bc bs) : RZ G l d mc ms z mt tb (fun below args s => MQ below (QcR G z Q) args s mc ms (xA G)) pc ll st lay μ bc bs := by
  intro p e s m args below meth c hC _ H locs cells slots ls hz hP hS h1 h2 hl
  exact h p e s m args below meth c hC H locs cells slots ls hz hP hS h1 h2 hl
def ZL (G : xG) : List Frame → Array Value → State → State → Prop := fun below args s => MQ below (QcR G false qL1) args s 601024 7293033 (xA G)
theorem law_init (hl : l.stackTraces = false) (hL2 : G.2.2.2 4 ≤ 3072) : RZ G l 1312 601024 7293033 true mL_law (fun _ => True) (ZL G) 0 [some (.ref (G.2.2.2 3)), none, none, none, none, none, none] [] [] mm_0 601024 7293033 := by
  refine xz_new (ci := 11) (fs := [some none, none, none, some none, none, some none, some none, some none, some none, some none, some none, some none, some none]) dL_law_0 cl_L_8 wn_X11 wi_X11 rfl inC11 tyX11_ok rfl (by decide) (by decide) (fun i => mm_0_z 0 (by decide) i) hfs_11 ?_
  change RZ G l 1312 601024 7293033 true mL_law (fun _ => True) (ZL G) 3 _ [xr G 0] ly_1 mm_0 601023 7293020
  refine xz_dup dL_law_3 rfl ?_
  refine xz_callI (As := []) (d' := 1311) (mc' := 73) (ms' := 63699) dL_law_4 mi_X11_init rfl rfl (Or.inl ml_L_19) rfl rfl (Nat.le_of_ble_eq_true rfl) (by decide) (by decide) (by decide) (ct_17 (d := 1306)) ?_
  rintro r lay' μ' ⟨rfl, rfl, rfl⟩
  change RZ G l 1312 601024 7293033 true mL_law (fun _ => True) (ZL G) 7 _ [xr G 0] ly_160 mm_7 600950 7229321
  refine xz_astore_n dL_law_7 (by decide) rfl ?_
  refine xz_new (ci := 12) (fs := [none, some none, none, none, none, none, some none, some none, some none, some none, some none, some none, some none, some none, some none, some none, some none, some none, some none, some none, none, none, none, none, some none, some none, none, none, some none, some none, some none, some none, some none, some none, some none, some none, some none, some none, some none, some none, some none, none, none, none, none, none, none, none, none, none, some none, some none, none, some none, none, some none, none, some none, some none, some none, some none, some none, some none, some none, some none, some none, some none, none, some none, some none, some none, some none, none, some none, some none, some none, none, some none, some none, some none, some none, none]) dL_law_8 cl_L_20 wn_X12 wi_X12 rfl inC12 tyX12_ok rfl (by decide) (by decide) (fun i => mm_7_z 74 (by decide) i) hfs_12 ?_
  change RZ G l 1312 601024 7293033 true mL_law (fun _ => True) (ZL G) 11 _ [xr G 74] ly_161 mm_7 600949 7229239
  refine xz_dup dL_law_11 rfl ?_
  refine xz_callI (As := []) (d' := 1311) (mc' := 55) (ms' := 368226) dL_law_12 mi_X12_init rfl rfl (Or.inl ml_L_22) rfl rfl (Nat.le_of_ble_eq_true rfl) (by decide) (by decide) (by decide) (ct_18 (d := 1306)) ?_
  rintro r lay' μ' ⟨rfl, rfl, rfl⟩
  change RZ G l 1312 601024 7293033 true mL_law (fun _ => True) (ZL G) 15 _ [xr G 74] ly_271 mm_9 600894 6861013
  refine xz_astore_n dL_law_15 (by decide) rfl ?_
  refine xz_iconst dL_law_16 ?_
  refine xz_newarray (t := 3) (n := 1) dL_law_17 w_ac_long rfl rfl rfl (by decide) (by decide) (by decide) (fun i => mm_9_z 130 (by decide) i) (fun _ => rfl) ?_
  change RZ G l 1312 601024 7293033 true mL_law (fun _ => True) (ZL G) 19 _ [xr G 130] ly_272 mm_9 600893 6861012
  rw [ly_fin]
  refine xz_astore_n dL_law_19 (by decide) rfl ?_
  refine xz_iconst dL_law_20 ?_
  refine xz_istore dL_law_21 (by decide) rfl ?_
  refine RZ.ofF (RZ.ofQ ?_)
  exact law_loop hl hL2 512 0 0 mm_9 600893 6861012 (by omega) (by omega) (by omega) (INV_0 blank_9) (by omega) (by omega) (by omega) (by omega)
end StartL
