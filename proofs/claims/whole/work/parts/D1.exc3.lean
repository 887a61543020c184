/-! octet, told: what throws, who catches -/
section ExC
def NSN : List String := ["java/lang/RuntimeException", "java/lang/Exception"]
theorem xin_all (L : List Cond) (ix : List (Nat × Nat)) (h : (List.range L.length).all (fun k => match L[k]? with
    | some w => decide ((x_ch (ix.getD k (0, 0)).1)[(ix.getD k (0, 0)).2]? = some w) && (goodWord w || (xnest w && w.onTables))
    | none => false) = true) : ∀ w ∈ L, w ∈ xTs ∨ (w ∈ xTn ∧ w.onTables = true) := by
  intro w hw
  obtain ⟨k, hk⟩ := List.mem_iff_getElem?.mp hw
  have hlt : k < L.length := (List.getElem?_eq_some_iff.mp hk).1
  have h1 := List.all_eq_true.mp h k (List.mem_range.mpr hlt)
  rw [hk] at h1
  simp only [Bool.and_eq_true, decide_eq_true_eq, Bool.or_eq_true] at h1
  obtain ⟨h2, h3⟩ := h1
  rcases h3 with h3 | h3
  · exact Or.inl (xinc _ _ h2 h3)
  · exact Or.inr ⟨xincN _ _ h2 h3.1, h3.2⟩
set_option maxRecDepth 20000 in
theorem ne_at : ∀ w ∈ vx_at0 RX11 149 "java/util/NoSuchElementException" NSN, w ∈ xTs ∨ (w ∈ xTn ∧ w.onTables = true) := xin_all _ [(1, 21), (5, 158), (5, 167), (5, 169), (5, 172), (5, 174), (5, 159), (5, 160), (1, 31), (1, 32), (5, 161), (5, 166), (5, 170), (5, 186), (5, 148), (5, 187), (5, 150), (5, 188), (5, 152), (5, 162), (5, 164), (5, 154), (5, 176), (5, 177), (5, 178), (5, 179), (5, 139), (5, 179), (5, 180), (5, 181), (5, 182), (5, 141), (5, 182), (5, 183), (5, 184), (5, 159), (5, 143), (5, 175), (5, 137), (5, 138), (5, 145), (5, 146), (5, 147), (5, 149), (5, 151), (5, 153), (5, 157), (5, 156), (5, 155)] (by decide +kernel)
theorem ne_good : ∀ w ∈ Cond.classLink RX11 147 "java/util/NoSuchElementException" :: Cond.initialized "java/util/NoSuchElementException" :: vx_at0 RX11 149 "java/util/NoSuchElementException" NSN, vx_ot w = true := List.all_eq_true.mp (by decide +kernel)
theorem ne_fit : ∀ n ∈ NSN, Bundle.fit n = true := by decide +kernel
theorem ne_cl : Cond.classLink RX11 147 "java/util/NoSuchElementException" ∈ xTs := xin5 136 (by decide +kernel) (by decide +kernel)
theorem ne_ini : Cond.initialized "java/util/NoSuchElementException" ∈ xTs := xin1 24 (by decide +kernel) (by decide +kernel)
theorem ne_cl2 : Cond.classLink RL 13 "java/util/NoSuchElementException" ∈ xTs := xin5 131 (by decide +kernel) (by decide +kernel)
theorem ne_cast : Cond.castable "java/util/NoSuchElementException" "java/util/NoSuchElementException" ∈ xTn := xinN5 138 (by decide +kernel) (by decide +kernel)
theorem dX11_octet_0 : decode cX11_octet 0 = .ok (.iload_n 1, 1) := by decide +kernel
theorem dX11_octet_1 : decode cX11_octet 1 = .ok (.ifCond .lt 11, 3) := by decide +kernel
theorem dX11_octet_4 : decode cX11_octet 4 = .ok (.iload_n 1, 1) := by decide +kernel
theorem dX11_octet_5 : decode cX11_octet 5 = .ok (.aload_n 0, 1) := by decide +kernel
theorem dX11_octet_6 : decode cX11_octet 6 = .ok (.getfield 141, 3) := by decide +kernel
theorem dX11_octet_9 : decode cX11_octet 9 = .ok (.if_icmp .lt 11, 3) := by decide +kernel
theorem dX11_octet_12 : decode cX11_octet 12 = .ok (.new 147, 3) := by decide +kernel
theorem dX11_octet_15 : decode cX11_octet 15 = .ok (.dup, 1) := by decide +kernel
theorem dX11_octet_16 : decode cX11_octet 16 = .ok (.invokespecial 149, 3) := by decide +kernel
theorem dX11_octet_19 : decode cX11_octet 19 = .ok (.athrow, 1) := by decide +kernel
theorem dX11_octet_20 : decode cX11_octet 20 = .ok (.aload_n 0, 1) := by decide +kernel
theorem dX11_octet_21 : decode cX11_octet 21 = .ok (.getfield 13, 3) := by decide +kernel
theorem dX11_octet_24 : decode cX11_octet 24 = .ok (.iload_n 1, 1) := by decide +kernel
theorem dX11_octet_25 : decode cX11_octet 25 = .ok (.iaload, 1) := by decide +kernel
theorem dX11_octet_26 : decode cX11_octet 26 = .ok (.ireturn, 1) := by decide +kernel
theorem dX11_told_0 : decode cX11_told 0 = .ok (.iload_n 1, 1) := by decide +kernel
theorem dX11_told_1 : decode cX11_told 1 = .ok (.ifCond .lt 23, 3) := by decide +kernel
theorem dX11_told_4 : decode cX11_told 4 = .ok (.iload_n 1, 1) := by decide +kernel
theorem dX11_told_5 : decode cX11_told 5 = .ok (.aload_n 0, 1) := by decide +kernel
theorem dX11_told_6 : decode cX11_told 6 = .ok (.getfield 67, 3) := by decide +kernel
theorem dX11_told_9 : decode cX11_told 9 = .ok (.getfield 191, 3) := by decide +kernel
theorem dX11_told_12 : decode cX11_told 12 = .ok (.if_icmp .ge 12, 3) := by decide +kernel
theorem dX11_told_15 : decode cX11_told 15 = .ok (.iload_n 2, 1) := by decide +kernel
theorem dX11_told_16 : decode cX11_told 16 = .ok (.ifCond .lt 8, 3) := by decide +kernel
theorem dX11_told_19 : decode cX11_told 19 = .ok (.iload_n 2, 1) := by decide +kernel
theorem dX11_told_20 : decode cX11_told 20 = .ok (.iconst 1, 1) := by decide +kernel
theorem dX11_told_21 : decode cX11_told 21 = .ok (.if_icmp .le 11, 3) := by decide +kernel
theorem dX11_told_24 : decode cX11_told 24 = .ok (.new 147, 3) := by decide +kernel
theorem dX11_told_27 : decode cX11_told 27 = .ok (.dup, 1) := by decide +kernel
theorem dX11_told_28 : decode cX11_told 28 = .ok (.invokespecial 149, 3) := by decide +kernel
theorem dX11_told_31 : decode cX11_told 31 = .ok (.athrow, 1) := by decide +kernel
theorem dX11_told_32 : decode cX11_told 32 = .ok (.iload_n 2, 1) := by decide +kernel
theorem dX11_told_33 : decode cX11_told 33 = .ok (.ifCond .ne 15, 3) := by decide +kernel
theorem dX11_told_36 : decode cX11_told 36 = .ok (.aload_n 0, 1) := by decide +kernel
theorem dX11_told_37 : decode cX11_told 37 = .ok (.getfield 67, 3) := by decide +kernel
theorem dX11_told_40 : decode cX11_told 40 = .ok (.getfield 194, 3) := by decide +kernel
theorem dX11_told_43 : decode cX11_told 43 = .ok (.iload_n 1, 1) := by decide +kernel
theorem dX11_told_44 : decode cX11_told 44 = .ok (.iaload, 1) := by decide +kernel
theorem dX11_told_45 : decode cX11_told 45 = .ok (.goto 12, 3) := by decide +kernel
theorem dX11_told_48 : decode cX11_told 48 = .ok (.aload_n 0, 1) := by decide +kernel
theorem dX11_told_49 : decode cX11_told 49 = .ok (.getfield 67, 3) := by decide +kernel
theorem dX11_told_52 : decode cX11_told 52 = .ok (.getfield 197, 3) := by decide +kernel
theorem dX11_told_55 : decode cX11_told 55 = .ok (.iload_n 1, 1) := by decide +kernel
theorem dX11_told_56 : decode cX11_told 56 = .ok (.iaload, 1) := by decide +kernel
theorem dX11_told_57 : decode cX11_told 57 = .ok (.ireturn, 1) := by decide +kernel
theorem dL_octet_0 : decode cL_octet 0 = .ok (.aload_n 2, 1) := by decide +kernel
theorem dL_octet_1 : decode cL_octet 1 = .ok (.iconst 0, 1) := by decide +kernel
theorem dL_octet_2 : decode cL_octet 2 = .ok (.aload_n 0, 1) := by decide +kernel
theorem dL_octet_3 : decode cL_octet 3 = .ok (.iload_n 1, 1) := by decide +kernel
theorem dL_octet_4 : decode cL_octet 4 = .ok (.invokevirtual 7, 3) := by decide +kernel
theorem dL_octet_7 : decode cL_octet 7 = .ok (.i2l, 1) := by decide +kernel
theorem dL_octet_8 : decode cL_octet 8 = .ok (.lastore, 1) := by decide +kernel
theorem dL_octet_9 : decode cL_octet 9 = .ok (.goto 6, 3) := by decide +kernel
theorem dL_octet_12 : decode cL_octet 12 = .ok (.astore_n 3, 1) := by decide +kernel
theorem dL_octet_13 : decode cL_octet 13 = .ok (.iconst 1, 1) := by decide +kernel
theorem dL_octet_14 : decode cL_octet 14 = .ok (.ireturn, 1) := by decide +kernel
theorem dL_octet_15 : decode cL_octet 15 = .ok (.iconst 0, 1) := by decide +kernel
theorem dL_octet_16 : decode cL_octet 16 = .ok (.ireturn, 1) := by decide +kernel
theorem dL_told_0 : decode cL_told 0 = .ok (.aload_n 3, 1) := by decide +kernel
theorem dL_told_1 : decode cL_told 1 = .ok (.iconst 0, 1) := by decide +kernel
theorem dL_told_2 : decode cL_told 2 = .ok (.aload_n 0, 1) := by decide +kernel
theorem dL_told_3 : decode cL_told 3 = .ok (.iload_n 1, 1) := by decide +kernel
theorem dL_told_4 : decode cL_told 4 = .ok (.iload_n 2, 1) := by decide +kernel
theorem dL_told_5 : decode cL_told 5 = .ok (.invokevirtual 15, 3) := by decide +kernel
theorem dL_told_8 : decode cL_told 8 = .ok (.i2l, 1) := by decide +kernel
theorem dL_told_9 : decode cL_told 9 = .ok (.lastore, 1) := by decide +kernel
theorem dL_told_10 : decode cL_told 10 = .ok (.goto 7, 3) := by decide +kernel
theorem dL_told_13 : decode cL_told 13 = .ok (.astore 4, 2) := by decide +kernel
theorem dL_told_15 : decode cL_told 15 = .ok (.iconst 1, 1) := by decide +kernel
theorem dL_told_16 : decode cL_told 16 = .ok (.ireturn, 1) := by decide +kernel
theorem dL_told_17 : decode cL_told 17 = .ok (.iconst 0, 1) := by decide +kernel
theorem dL_told_18 : decode cL_told 18 = .ok (.ireturn, 1) := by decide +kernel
variable {G : xG} {l : Launch} {d mc ms pc bc bs : Nat} {z : Bool} {mt : xMT} {tb : List ExceptionTableEntry → Prop} {Z : List Frame → Array Value → State → State → Prop} {Q : Option Value → List xLay → xMem → Prop} {ll : xLL} {st : List Value} {lay : List xLay} {μ : xMem}
theorem vx_ofRZ {Qc : Array Value → State → Outcome → State → Prop} {XC : String → State → State → Prop} {args : List Value} (hy : plainName mt.1.cls = true) (hlen : (lg_sl args).length ≤ mt.2.2.1) {ll : xLL} (hll : prs 0 ll = lv_args 0 args) (hi : (mt.2.2.2.2 = true → mt.1.name = "<init>"))
    (h : RZ G l d mc ms z mt (fun L => ∀ x ∈ L, False) (fun below args s => vx_MQ below Qc XC args s mc ms (xA G)) 0 ll [] lay μ mc ms) : vx_Met l mt.1 (.code mt.1 mt.2.1 mt.2.2.1 mt.2.2.2.1 :: xTs) (rmo d mc ms) (va_Pc args (WD G z lay μ)) Qc XC mc ms (xA G) := by
  refine vx_ofW (cc := mt.2.1) (maxL := mt.2.2.1) (ret := mt.2.2.2.1) hy rfl ?_
  intro p e s m args' below meth c s₁ B hml htab hv
  obtain ⟨rfl, h1, h2, h3, h4, h5, h6⟩ := hv
  have hts := atoms_spec (ws := .code mt.1 mt.2.1 mt.2.2.1 mt.2.2.2.1 :: xTs) B.pre
  rw [lg_entry_eq]
  refine h p e s m _ below meth c ⟨B.exec, B.bytes, B.returns, hml, findClass_of_methodNamed B.named, fun w hw => hts w (List.mem_cons_of_mem _ hw), B.notSynchronized, fun hq => (name_of_methodNamed B.named B.method).1.trans (hi hq), h3, h4, h5, h6⟩ htab s.heap [] 0 0 _ h1 h2 va_S.rf (by omega) (by omega) ?_
  rw [hll]
  exact lv_entry args hlen
theorem vx_ofRZW {hh : List (Nat × Nat × Nat × Nat)} {Qc : Array Value → State → Outcome → State → Prop} {XC : String → State → State → Prop} {args : List Value} (hy : plainName mt.1.cls = true) (hlen : (lg_sl args).length ≤ mt.2.2.1) {ll : xLL} (hll : prs 0 ll = lv_args 0 args) (hi : (mt.2.2.2.2 = true → mt.1.name = "<init>"))
    (h : RZ G l d mc ms z mt (fun L => L = tableOf hh) (fun below args s => vx_MQ below Qc XC args s mc ms (xA G)) 0 ll [] lay μ mc ms) : vx_Met l mt.1 (.codeWith mt.1 mt.2.1 mt.2.2.1 mt.2.2.2.1 hh :: xTs) (rmo d mc ms) (va_Pc args (WD G z lay μ)) Qc XC mc ms (xA G) := by
  refine vx_ofWH (cc := mt.2.1) (maxL := mt.2.2.1) (ret := mt.2.2.2.1) (hh := hh) hy rfl ?_
  intro p e s m args' below meth c s₁ B hml hv
  obtain ⟨rfl, h1, h2, h3, h4, h5, h6⟩ := hv
  have hts := atoms_spec (ws := .codeWith mt.1 mt.2.1 mt.2.2.1 mt.2.2.2.1 hh :: xTs) B.pre
  rw [lg_entry_eq]
  refine h p e s m _ below meth c ⟨B.exec, B.bytes, B.returns, hml, findClass_of_methodNamed B.named, fun w hw => hts w (List.mem_cons_of_mem _ hw), B.notSynchronized, fun hq => (name_of_methodNamed B.named B.method).1.trans (hi hq), h3, h4, h5, h6⟩ (vx_table (x := mt.1) B (hts _ List.mem_cons_self)) s.heap [] 0 0 _ h1 h2 va_S.rf (by omega) (by omega) ?_
  rw [hll]
  exact lv_entry args hlen
/-- a call that may throw, in a method whose one row catches it -/
theorem xz_callX {w : Prop} {k ci index n d' mc' ms' : Nat} {fs : List (Option (Option Nat))} {T : u_T} {N : Nat} {As : List Value} {mt' : xMT} {Q' : Option Value → List xLay → xMem → Prop} {st0 : List Value} {x : ExceptionTableEntry} (hd : decode mt.2.1 pc = .ok (.invokevirtual index, 3)) (hM : xMi mt' n) (hlink : Cond.methodLink mt.1.cls index mt'.1 ∈ xTs) (hsel : Cond.selects mt'.1.cls mt'.1 mt'.1 ∈ xTs)
    (hL : lay[k]? = some (.inr (ci, fs))) (hc : vwCl[ci]? = some (mt'.1.cls, T, N)) (hn : As.length = n) (hst : st0 = As.reverse ++ xr G k :: st) (hw : (st.map fun v => v.category).sum ≤ 8) (hdd : d' + 1 ≤ d) (hb1 : mc' ≤ bc) (hb2 : ms' ≤ bs)
    (hc1 : vx_Met l mt'.1 (.code mt'.1 mt'.2.1 mt'.2.2.1 mt'.2.2.2.1 :: xTs) (rmo d' mc' ms') (va_Pc (xr G k :: As) (WD G false lay μ)) (QcR G false Q') (xEx G w lay μ) mc' ms' (xA G))
    (htb : ∀ L, tb L → L = [x]) (hcov : covers x pc = true) (hne : x.catchType ≠ 0) (hlk : Cond.classLink mt.1.cls x.catchType "java/util/NoSuchElementException" ∈ xTs)
    (K1 : ∀ r lay' μ', Q' r lay' μ' → RZ G l d mc ms false mt tb Z (pc + 3) ll (r.toList ++ st) lay' μ' (bc - mc') (bs - ms'))
    (K2 : w → ∀ a, RZ G l d mc ms false mt tb Z x.handlerPc ll [.ref a] lay μ (bc - mc') (bs - ms')) : RZ G l d mc ms false mt tb Z pc ll st0 lay μ bc bs := by
  intro p e s m args below meth c hC ht9 H locs cells slots ls hz hP hS h1 h2 hl
  subst hst
  have hC0 := hC
  obtain ⟨hx, hb, -, hml, hown, hts, -, -, hK, hN, -, -⟩ := hC
  obtain ⟨m1, m2, m3, m4, m5, m6⟩ := hM
  have hr := vx_runV (As := As) (rest := st) (b := G.1 + k) (g := F0 m pc ls (As.reverse ++ xr G k :: st)) (below := below) (locs := locs) (cells := cells) (slots := slots) (e := e) (meth := meth) (R := rmo d mc ms) (H := H) ⟨hx, hb, hml, hown, hts⟩ hc1 ⟨x_callB hts m2 m3 m4 m5 m6 hdd hlink, hts _ m1, hts _ hsel⟩ ⟨WD.blind, x_recv hK hP hL hc, fun U hU hW => ⟨rfl, WD.of hC0 hz hP hS hU hW⟩⟩ rfl hn hl.1 rfl (lv_room hw) hd ⟨by show cells + mc' ≤ mc; omega, by show slots + ms' ≤ ms; omega⟩
  intro T9 hT9 X
  rcases hr T9 hT9 X with ⟨v, st₀, t, T', L, h0, X', hL9, e1, e2, ⟨r, lay', μ', hv, hq, hW, hF⟩, hst⟩ | ⟨q, st₀, t, T', L, E, ce, h0, X', hL9, e1, e2, ⟨x1, x2, x3, x4, hF⟩, hce, hcv, hcl, hst⟩
  · cases hv
    have hz1 := hW.1
    have hP1 := hW.2.1
    rw [← e1] at hz1 hP1
    obtain ⟨hF1, hF2⟩ := hF
    rw [h0, ← e1] at hF1 hF2
    obtain ⟨t2, a1, b1⟩ := K1 v lay' μ' hq p e s m args below meth c hC0 ht9 T'.heap (locs ++ L) (cells + mc') (slots + ms') ls hz1 hP1
      ⟨Nat.le_trans hS.1 hF1, fun q g1 g2 => (hF2 q (Nat.lt_of_lt_of_le g1 hS.1) g2).trans (hS.2.1 q g1 g2), fun q hq => by
        rcases List.mem_append.mp hq with h | h
        · exact hS.2.2 q h
        · exact hL9 q h⟩ (by omega) (by omega) hl T' rfl X'
    exact ⟨t2, hst t2 a1, b1⟩
  · subst x1
    rw [← e1] at x3 x4
    obtain ⟨hF1, hF2⟩ := hF
    rw [h0, ← e1] at hF1 hF2
    obtain ⟨vm', XV, hc9⟩ := xc_catch X' (g := F0 m pc ls st) rfl (htb _ ht9) hcov hne hown (hts _ hlk) (va_Nw.use rfl (hN _ ne_cast)) (by rw [e1]; exact hce) hcv hcl
    obtain ⟨t2, a1, b1⟩ := K2 x2 q p e s m args below meth c hC0 ht9 T'.heap (locs ++ L) (cells + mc') (slots + ms') ls x3 x4
      ⟨Nat.le_trans hS.1 hF1, fun q g1 g2 => (hF2 q (Nat.lt_of_lt_of_le g1 hS.1) g2).trans (hS.2.1 q g1 g2), fun q hq => by
        rcases List.mem_append.mp hq with h | h
        · exact hS.2.2 q h
        · exact hL9 q h⟩ (by omega) (by omega) hl (T'.setVm vm') rfl XV
    exact ⟨t2, hst.trans (hc9 t2 a1), b1⟩
/-- a static method with a table of its own that lets nothing out -/
theorem xr_callW {hh : List (Nat × Nat × Nat × Nat)} {index n d' mc' ms' : Nat} {As : List Value} {mt' : xMT} {Q' : Option Value → List xLay → xMem → Prop} {st0 : List Value} (hd : decode mt.2.1 pc = .ok (.invokestatic index, 3)) (hs9 : Cond.static mt'.1 ∈ xTs) (hini : Cond.initialized mt'.1.cls ∈ xTs) (hco : Cond.codeWith mt'.1 mt'.2.1 mt'.2.2.1 mt'.2.2.2.1 hh ∈ xTs) (hy : mt'.1.cls ≠ "java/lang/invoke/MethodHandle" ∧ mt'.1.cls ≠ "java/lang/invoke/VarHandle") (hpl : (parseMethodDescriptor mt'.1.desc).map (fun d => d.parameters.length) = some n) (hm45 : mt'.2.2.1 ≤ 45) (hlink : Cond.methodLink mt.1.cls index mt'.1 ∈ xTs)
    (hn : As.length = n) (hst : st0 = As.reverse ++ st) (hw : (st.map fun v => v.category).sum ≤ 8) (hdd : d' + 1 ≤ d) (hb1 : mc' ≤ bc) (hb2 : ms' ≤ bs)
    (hc1 : vx_Met l mt'.1 (.codeWith mt'.1 mt'.2.1 mt'.2.2.1 mt'.2.2.2.1 hh :: xTs) (rmo d' mc' ms') (va_Pc As (WD G false lay μ)) (QcR G false Q') (fun _ _ _ => False) mc' ms' (xA G)) (K : ∀ r lay' μ', Q' r lay' μ' → RR G l d mc ms false mt Q (pc + 3) ll (r.toList ++ st) lay' μ' (bc - mc') (bs - ms')) : RR G l d mc ms false mt Q pc ll st0 lay μ bc bs := by
  intro p e s m args below meth c hC H locs cells slots ls hz hP hS h1 h2 hl
  subst hst
  have hC0 := hC
  obtain ⟨hx, hb, -, hml, hown, hts, -, -, hK, hN, -, -⟩ := hC
  refine x_after (a := As.toArray) hC0 hS h1 h2 hb1 hb2 hl ?_ K
  intro T9 hT9 X
  rcases vx_runSX (As := As) (rest := st) (g := F0 m pc ls (As.reverse ++ st)) (below := below) (locs := locs) (cells := cells) (slots := slots) (e := e) (meth := meth) (R := rmo d mc ms) (H := H) (hh := hh) ⟨hx, hb, hml, hown, hts⟩ hc1 ⟨⟨rfl, rfl, hdd, by show 8 + (mt'.2.2.1 + 11) + 64 * d' ≤ 64 * d; omega, x_pay hts hco, List.mem_cons_self⟩, hts _ hco, hts _ hini, hy, x_len hpl, hts _ hlink, hts _ hs9⟩ ⟨WD.blind, fun U hU hW => ⟨rfl, WD.of hC0 hz hP hS hU hW⟩⟩ rfl hn hl.1 rfl (lv_room hw) hd ⟨by show cells + mc' ≤ mc; omega, by show slots + ms' ≤ ms; omega⟩ T9 hT9 X with h | ⟨q, st₀, t, T', L, E, ce, h0, X', hL9, e1, e2, hF, hce, hcv, hcl, hst⟩
  · exact h
  · exact hF.elim
end ExC
