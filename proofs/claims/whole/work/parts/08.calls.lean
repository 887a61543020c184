/-! THE RULES of RR: calls, answers, making, the library's own -/
section CallsA
variable {G : xG} {l : Launch} {d mc ms pc bc bs : Nat} {z : Bool} {mt : xMT} {Q : Option Value → List xLay → xMem → Prop} {ll : xLL} {st : List Value} {lay : List xLay} {μ : xMem}
/-- what the tables say of a method that is called on an object, of a static one -/
def xMi (mt : xMT) (n : Nat) : Prop := Cond.instanceMethod mt.1 ∈ xTs ∧ Cond.initialized mt.1.cls ∈ xTs ∧ Cond.code mt.1 mt.2.1 mt.2.2.1 mt.2.2.2.1 ∈ xTs ∧ (mt.1.cls ≠ "java/lang/invoke/MethodHandle" ∧ mt.1.cls ≠ "java/lang/invoke/VarHandle") ∧ (parseMethodDescriptor mt.1.desc).map (fun d => d.parameters.length) = some n ∧ mt.2.2.1 ≤ 45
def xMs (mt : xMT) (n : Nat) : Prop := Cond.static mt.1 ∈ xTs ∧ Cond.initialized mt.1.cls ∈ xTs ∧ Cond.code mt.1 mt.2.1 mt.2.2.1 mt.2.2.2.1 ∈ xTs ∧ (mt.1.cls ≠ "java/lang/invoke/MethodHandle" ∧ mt.1.cls ≠ "java/lang/invoke/VarHandle") ∧ (parseMethodDescriptor mt.1.desc).map (fun d => d.parameters.length) = some n ∧ mt.2.2.1 ≤ 45
theorem x_len {desc : String} {n : Nat} (h : (parseMethodDescriptor desc).map (fun d => d.parameters.length) = some n) : ∀ sig, parseMethodDescriptor desc = some sig → n = sig.parameters.length := fun sig hs => by
  rw [hs] at h
  exact (Option.some.inj h).symm
theorem x_pay {s : State} {args : Array Value} {w0 : Cond} (hts : ∀ w ∈ xTs, w.before args s = true) (h0 : w0 ∈ xTs) : ∀ w ∈ w0 :: xTs, ∀ (a' : Array Value) (U : State), s.WarmedH U.vm → w.before a' U = true :=
  pay_in hts fun w hw => by
    rcases List.mem_cons.mp hw with h | h
    · rw [h]; exact ⟨h0, xTs_good _ h0⟩
    · exact ⟨h, xTs_good _ h⟩
theorem x_callB {s : State} {args : Array Value} {own : String} {index n d' mc' ms' : Nat} {mt' : xMT} (hts : ∀ w ∈ xTs, w.before args s = true) (hini : Cond.initialized mt'.1.cls ∈ xTs) (hcode : Cond.code mt'.1 mt'.2.1 mt'.2.2.1 mt'.2.2.2.1 ∈ xTs) (hy : mt'.1.cls ≠ "java/lang/invoke/MethodHandle" ∧ mt'.1.cls ≠ "java/lang/invoke/VarHandle")
    (hlen : (parseMethodDescriptor mt'.1.desc).map (fun d => d.parameters.length) = some n) (hl : mt'.2.2.1 ≤ 45) (hd : d' + 1 ≤ d) (hlink : Cond.methodLink own index mt'.1 ∈ xTs) :
    CallB (rmo d mc ms) s args own index mt'.1 mt'.2.1 mt'.2.2.1 mt'.2.2.2.1 (.code mt'.1 mt'.2.1 mt'.2.2.1 mt'.2.2.2.1 :: xTs) (rmo d' mc' ms') mc' ms' n :=
  ⟨rfl, rfl, hd, by show 8 + (mt'.2.2.1 + 11) + 64 * d' ≤ 64 * d; omega, x_pay hts hcode, List.mem_cons_self, hts _ hcode, hts _ hini, hy, x_len hlen, hts _ hlink⟩
theorem x_callN {s : State} {args : Array Value} {own host : String} {index n d' mc' ms' : Nat} {mt' : xMT} (hts : ∀ w ∈ xTs, w.before args s = true) (hNW : xNW s) (hini : Cond.initialized mt'.1.cls ∈ xTs) (hcode : Cond.code mt'.1 mt'.2.1 mt'.2.2.1 mt'.2.2.2.1 ∈ xTs) (hy : mt'.1.cls ≠ "java/lang/invoke/MethodHandle" ∧ mt'.1.cls ≠ "java/lang/invoke/VarHandle")
    (hlen : (parseMethodDescriptor mt'.1.desc).map (fun d => d.parameters.length) = some n) (hl : mt'.2.2.1 ≤ 45) (hd : d' + 1 ≤ d) (hlink : Cond.methodLinkNest own index mt'.1 host ∈ xTn) :
    va_CN (rmo d mc ms) s args own index mt'.1 host mt'.2.1 mt'.2.2.1 mt'.2.2.2.1 (.code mt'.1 mt'.2.1 mt'.2.2.1 mt'.2.2.2.1 :: xTs) (rmo d' mc' ms') mc' ms' n :=
  va_cnB n hts (fun w hw => by
    rcases List.mem_cons.mp hw with h | h
    · rw [h]; exact ⟨hcode, xTs_good _ hcode⟩
    · exact ⟨h, xTs_good _ h⟩) rfl rfl rfl (hNW _ hlink) (hts _ hini) ⟨hy.1, hy.2, hlen⟩ ⟨hd, by show 8 + (mt'.2.2.1 + 11) + 64 * d' ≤ 64 * d; omega⟩
/-- behind a call -/
theorem x_after {p : Program} {e : Env} {s : State} {m : MethodId} {args : Array Value} {below : List Frame} {meth : Method} {c : Code} {H : Heap} {locs : List Loc} {cells slots mc' ms' : Nat} {ls : Array Slot} {st0 : List Value} {Q' : Option Value → List xLay → xMem → Prop} {a : Array Value}
    (hC : xCx G mt p s m args meth c) (hS : va_S (xA G) s.heap H locs) (h1 : cells + bc ≤ mc) (h2 : slots + bs ≤ ms) (hb1 : mc' ≤ bc) (hb2 : ms' ≤ bs) (hl : lv_has ls mt.2.2.1 (prs 0 ll))
    (hr : va_Run p l e (rmo d mc ms) s m args below meth c H locs cells slots mc' ms' (F0 m pc ls st0) st (QcR G z Q' a) (xA G))
    (K : ∀ r lay' μ', Q' r lay' μ' → RR G l d mc ms z mt Q (pc + 3) ll (r.toList ++ st) lay' μ' (bc - mc') (bs - ms')) :
    W p l e (rmo d mc ms) s m args below meth c H locs cells slots (MQ below (QcR G z Q) args s mc ms (xA G)) (F0 m pc ls st0) := by
  intro T hT X
  obtain ⟨v, st₀, t, T', L, h0, X', hL, e1, e2, ⟨r, lay', μ', hv, hq, hW, hF⟩, hst⟩ := hr T hT X
  cases hv
  have hz1 := hW.1
  have hP1 := hW.2.1
  rw [← e1] at hz1 hP1
  obtain ⟨hF1, hF2⟩ := hF
  rw [h0, ← e1] at hF1 hF2
  obtain ⟨t2, a1, b1⟩ := K v lay' μ' hq p e s m args below meth c hC T'.heap (locs ++ L) (cells + mc') (slots + ms') ls hz1 hP1
    ⟨Nat.le_trans hS.1 hF1, fun q g1 g2 => (hF2 q (Nat.lt_of_lt_of_le g1 hS.1) g2).trans (hS.2.1 q g1 g2), fun q hq => by
      rcases List.mem_append.mp hq with h | h
      · exact hS.2.2 q h
      · exact hL q h⟩ (by omega) (by omega) hl T' rfl X'
  exact ⟨t2, hst t2 a1, b1⟩
theorem x_recv {s : State} {H : Heap} {k ci : Nat} {fs : List (Option (Option Nat))} {q : vw_C} (hK : va_K G.2.1 vwCl (xty G) s) (hP : WP G lay μ H) (hL : lay[k]? = some (.inr (ci, fs))) (hc : vwCl[ci]? = some q) : ∃ cell : Cell, H[G.1 + k]? = some cell ∧ cell.vm.isStatics = false ∧ s.vm.findClass q.1 = some cell.cls :=
  va_recv hK (x_one (hP k _ hL)) hc (q0 := 0) rfl
theorem x_len0 {ls : Array Slot} {p : Program} {s : State} {m : MethodId} {args : Array Value} {meth : Method} {c : Code} (hC : xCx G mt p s m args meth c) (hl : lv_has ls mt.2.2.1 (prs 0 ll)) : c.maxLocals = ls.size := hC.2.2.2.1.trans hl.1.symm
/-- a method of an object -/
theorem xr_callV {k ci index n d' mc' ms' : Nat} {fs : List (Option (Option Nat))} {T : u_T} {N : Nat} {As : List Value} {mt' : xMT} {Q' : Option Value → List xLay → xMem → Prop} {st0 : List Value} (hd : decode mt.2.1 pc = .ok (.invokevirtual index, 3)) (hM : xMi mt' n) (hlink : Cond.methodLink mt.1.cls index mt'.1 ∈ xTs) (hsel : Cond.selects mt'.1.cls mt'.1 mt'.1 ∈ xTs)
    (hL : lay[k]? = some (.inr (ci, fs))) (hc : vwCl[ci]? = some (mt'.1.cls, T, N)) (hn : As.length = n) (hst : st0 = As.reverse ++ xr G k :: st) (hw : (st.map fun v => v.category).sum ≤ 8) (hdd : d' + 1 ≤ d) (hb1 : mc' ≤ bc) (hb2 : ms' ≤ bs)
    (hc1 : CC G l d' mc' ms' z mt' (xr G k :: As) lay μ Q') (K : ∀ r lay' μ', Q' r lay' μ' → RR G l d mc ms z mt Q (pc + 3) ll (r.toList ++ st) lay' μ' (bc - mc') (bs - ms')) : RR G l d mc ms z mt Q pc ll st0 lay μ bc bs := by
  intro p e s m args below meth c hC H locs cells slots ls hz hP hS h1 h2 hl
  subst hst
  have hC0 := hC
  obtain ⟨hx, hb, -, hml, hown, hts, -, -, hK, hN, -, -⟩ := hC
  obtain ⟨m1, m2, m3, m4, m5, m6⟩ := hM
  refine x_after hC0 hS h1 h2 hb1 hb2 hl (va_runV (As := As) (rest := st) (b := G.1 + k) ⟨hx, hb, hml, hown, hts⟩ hc1 ⟨x_callB hts m2 m3 m4 m5 m6 hdd hlink, hts _ m1, hts _ hsel⟩ ⟨WD.blind, x_recv hK hP hL hc, fun U hU hW => ⟨rfl, WD.of hC0 hz hP hS hU hW⟩⟩ rfl hn hl.1 rfl (lv_room hw) hd ⟨by show cells + mc' ≤ mc; omega, by show slots + ms' ≤ ms; omega⟩) K
/-- a static method -/
theorem xr_callS {index n d' mc' ms' : Nat} {As : List Value} {mt' : xMT} {Q' : Option Value → List xLay → xMem → Prop} {st0 : List Value} (hd : decode mt.2.1 pc = .ok (.invokestatic index, 3)) (hM : xMs mt' n) (hlink : Cond.methodLink mt.1.cls index mt'.1 ∈ xTs)
    (hn : As.length = n) (hst : st0 = As.reverse ++ st) (hw : (st.map fun v => v.category).sum ≤ 8) (hdd : d' + 1 ≤ d) (hb1 : mc' ≤ bc) (hb2 : ms' ≤ bs)
    (hc1 : CC G l d' mc' ms' z mt' As lay μ Q') (K : ∀ r lay' μ', Q' r lay' μ' → RR G l d mc ms z mt Q (pc + 3) ll (r.toList ++ st) lay' μ' (bc - mc') (bs - ms')) : RR G l d mc ms z mt Q pc ll st0 lay μ bc bs := by
  intro p e s m args below meth c hC H locs cells slots ls hz hP hS h1 h2 hl
  subst hst
  have hC0 := hC
  obtain ⟨hx, hb, -, hml, hown, hts, -, -, hK, hN, -, -⟩ := hC
  obtain ⟨m1, m2, m3, m4, m5, m6⟩ := hM
  refine x_after hC0 hS h1 h2 hb1 hb2 hl (va_runS (As := As) (rest := st) ⟨hx, hb, hml, hown, hts⟩ hc1 ⟨x_callB hts m2 m3 m4 m5 m6 hdd hlink, hts _ m1⟩ ⟨WD.blind, fun U hU hW => ⟨rfl, WD.of hC0 hz hP hS hU hW⟩⟩ rfl hn hl.1 rfl (lv_room hw) hd ⟨by show cells + mc' ≤ mc; omega, by show slots + ms' ≤ ms; omega⟩) K
/-- a static method of a nest mate -/
theorem xr_callSN {index n d' mc' ms' : Nat} {host : String} {As : List Value} {mt' : xMT} {Q' : Option Value → List xLay → xMem → Prop} {st0 : List Value} (hd : decode mt.2.1 pc = .ok (.invokestatic index, 3)) (hM : xMs mt' n) (hlink : Cond.methodLinkNest mt.1.cls index mt'.1 host ∈ xTn)
    (hn : As.length = n) (hst : st0 = As.reverse ++ st) (hw : (st.map fun v => v.category).sum ≤ 8) (hdd : d' + 1 ≤ d) (hb1 : mc' ≤ bc) (hb2 : ms' ≤ bs)
    (hc1 : CC G l d' mc' ms' z mt' As lay μ Q') (K : ∀ r lay' μ', Q' r lay' μ' → RR G l d mc ms z mt Q (pc + 3) ll (r.toList ++ st) lay' μ' (bc - mc') (bs - ms')) : RR G l d mc ms z mt Q pc ll st0 lay μ bc bs := by
  intro p e s m args below meth c hC H locs cells slots ls hz hP hS h1 h2 hl
  subst hst
  have hC0 := hC
  obtain ⟨hx, hb, -, hml, hown, hts, -, -, hK, hN, -, -⟩ := hC
  obtain ⟨m1, m2, m3, m4, m5, m6⟩ := hM
  refine x_after hC0 hS h1 h2 hb1 hb2 hl (va_runSN (As := As) (rest := st) ⟨hx, hb, hml, hown, hts⟩ hc1 ⟨x_callN hts hN m2 m3 m4 m5 m6 hdd hlink, hts _ m1, trivial⟩ ⟨WD.blind, fun U hU hW => ⟨rfl, WD.of hC0 hz hP hS hU hW⟩⟩ rfl hn hl.1 rfl (lv_room hw) hd ⟨by show cells + mc' ≤ mc; omega, by show slots + ms' ≤ ms; omega⟩) K
/-- a constructor -/
theorem xr_callI {k index n d' mc' ms' : Nat} {As : List Value} {mt' : xMT} {Q' : Option Value → List xLay → xMem → Prop} {st0 : List Value} (hd : decode mt.2.1 pc = .ok (.invokespecial index, 3)) (hM : xMi mt' n) (hret : mt'.2.2.2.1 = none) (hnm : mt'.1.name = "<init>") (hlink : Cond.methodLink mt.1.cls index mt'.1 ∈ xTs ∨ ∃ host : String, Cond.methodLinkNest mt.1.cls index mt'.1 host ∈ xTn)
    (hn : As.length = n) (hst : st0 = As.reverse ++ xr G k :: st) (hw : (st.map fun v => v.category).sum ≤ 8) (hdd : d' + 1 ≤ d) (hb1 : mc' ≤ bc) (hb2 : ms' ≤ bs)
    (hc1 : CC G l d' mc' ms' z mt' (xr G k :: As) lay μ Q') (K : ∀ r lay' μ', Q' r lay' μ' → RR G l d mc ms z mt Q (pc + 3) ll (r.toList ++ st) lay' μ' (bc - mc') (bs - ms')) : RR G l d mc ms z mt Q pc ll st0 lay μ bc bs := by
  intro p e s m args below meth c hC H locs cells slots ls hz hP hS h1 h2 hl
  subst hst
  have hC0 := hC
  obtain ⟨hx, hb, -, hml, hown, hts, -, -, hK, hN, -, -⟩ := hC
  obtain ⟨m1, m2, m3, m4, m5, m6⟩ := hM
  rcases hlink with hlink | ⟨host, hlink⟩
  · have hcb : CallB (rmo d mc ms) s args mt.1.cls index mt'.1 mt'.2.1 mt'.2.2.1 none (.code mt'.1 mt'.2.1 mt'.2.2.1 mt'.2.2.2.1 :: xTs) (rmo d' mc' ms') mc' ms' n := by
      have h := x_callB (d := d) (mc := mc) (ms := ms) (mc' := mc') (ms' := ms') hts m2 m3 m4 m5 m6 hdd hlink
      rw [hret] at h ⊢
      exact h
    refine x_after hC0 hS h1 h2 hb1 hb2 hl (va_runI (As := As) (rest := st) (b := G.1 + k) ⟨hx, hb, hml, hown, hts⟩ hc1 ⟨hcb, hnm, hts _ m1⟩ ⟨WD.blind, fun U hU hW => ⟨rfl, WD.of hC0 hz hP hS hU hW⟩⟩ rfl hn hl.1 rfl (lv_room hw) hd ⟨by show cells + mc' ≤ mc; omega, by show slots + ms' ≤ ms; omega⟩) K
  · have hcb : va_CN (rmo d mc ms) s args mt.1.cls index mt'.1 host mt'.2.1 mt'.2.2.1 none (.code mt'.1 mt'.2.1 mt'.2.2.1 mt'.2.2.2.1 :: xTs) (rmo d' mc' ms') mc' ms' n := by
      have h := x_callN (d := d) (mc := mc) (ms := ms) (mc' := mc') (ms' := ms') hts hN m2 m3 m4 m5 m6 hdd hlink
      rw [hret] at h ⊢
      exact h
    refine x_after hC0 hS h1 h2 hb1 hb2 hl (va_runIN (As := As) (rest := st) (b := G.1 + k) ⟨hx, hb, hml, hown, hts⟩ hc1 ⟨hcb, hnm, hts _ m1⟩ ⟨WD.blind, fun U hU hW => ⟨rfl, WD.of hC0 hz hP hS hU hW⟩⟩ rfl hn hl.1 rfl (lv_room hw) hd ⟨by show cells + mc' ≤ mc; omega, by show slots + ms' ≤ ms; omega⟩) K
/-- the ends -/
theorem xr_ret (hd : decode mt.2.1 pc = .ok (.return_, 1)) (hr : mt.2.2.2.1 = none) (K : Q none lay μ) : RR G l d mc ms z mt Q pc ll [] lay μ bc bs := by
  intro p e s m args below meth c hC H locs cells slots ls hz hP hS h1 h2 hl
  have hlk := hC.2.2.2.2.2.2.1
  refine W.widen (k := mc) (n := ms) (by omega) (by omega) ?_
  exact W.vret hC.1 hC.2.1 (hC.2.2.1.trans hr) (fun t ht hW => ⟨none, lay, μ, rfl, K, WD.of hC hz hP hS ht hW, hS.F ht⟩) hS.2.2 hd
theorem xr_iret {x : Int} (hd : decode mt.2.1 pc = .ok (.ireturn, 1)) (hr : mt.2.2.2.1 = some .int) (K : Q (some (xi x)) lay μ) : RR G l d mc ms z mt Q pc ll [xi x] lay μ bc bs := by
  intro p e s m args below meth c hC H locs cells slots ls hz hP hS h1 h2 hl
  have hlk := hC.2.2.2.2.2.2.1
  refine W.widen (k := mc) (n := ms) (by omega) (by omega) ?_
  exact W.iret hC.1 hC.2.1 (hC.2.2.1.trans hr) (fun t ht hW => ⟨some (xi x), lay, μ, rfl, K, WD.of hC hz hP hS ht hW, hS.F ht⟩) hS.2.2 hd
theorem xr_zret {x : Int} {ty : FieldType} (hd : decode mt.2.1 pc = .ok (.ireturn, 1)) (hr : mt.2.2.2.1 = some ty) (hn : narrow ty (.int (Int32.ofInt x)) = .int (Int32.ofInt x)) (K : Q (some (xi x)) lay μ) : RR G l d mc ms z mt Q pc ll [xi x] lay μ bc bs := by
  intro p e s m args below meth c hC H locs cells slots ls hz hP hS h1 h2 hl
  have hlk := hC.2.2.2.2.2.2.1
  refine W.widen (k := mc) (n := ms) (by omega) (by omega) ?_
  exact W.zret hC.1 hC.2.1 (hC.2.2.1.trans hr) hn (fun t ht hW => ⟨some (xi x), lay, μ, rfl, K, WD.of hC hz hP hS ht hW, hS.F ht⟩) hS.2.2 hd
theorem xr_lret {x : Int} (hd : decode mt.2.1 pc = .ok (.lreturn, 1)) (hr : mt.2.2.2.1 = some .long) (K : Q (some (xl x)) lay μ) : RR G l d mc ms z mt Q pc ll [xl x] lay μ bc bs := by
  intro p e s m args below meth c hC H locs cells slots ls hz hP hS h1 h2 hl
  have hlk := hC.2.2.2.2.2.2.1
  refine W.widen (k := mc) (n := ms) (by omega) (by omega) ?_
  exact W.lret hC.1 hC.2.1 (hC.2.2.1.trans hr) (fun t ht hW => ⟨some (xl x), lay, μ, rfl, K, WD.of hC hz hP hS ht hW, hS.F ht⟩) hS.2.2 hd
/-- a constructor's Object.<init> -/
theorem xr_obj {k index : Nat} (hd : decode mt.2.1 pc = .ok (.invokespecial index, 3)) (hlink : Cond.methodLink mt.1.cls index Lib.objectInit ∈ xTs) (hin : Cond.instanceMethod Lib.objectInit ∈ xTs) (hco : Cond.code Lib.objectInit ⟨#[0xb1]⟩ 1 none ∈ xTs) (hdd : 1 ≤ d) (hw : (st.map fun v => v.category).sum ≤ 8)
    (K : RR G l d mc ms z mt Q (pc + 3) ll st lay μ bc bs) : RR G l d mc ms z mt Q pc ll (xr G k :: st) lay μ bc bs := by
  intro p e s m args below meth c hC H locs cells slots ls hz hP hS h1 h2 hl
  have K1 := K p e s m args below meth c hC H locs cells slots ls hz hP hS h1 h2 hl
  have hml := x_len0 hC hl
  obtain ⟨hx, hb, -, -, hown, hts, -, -, hK, hN, -, -⟩ := hC
  exact W.objInit hx hb hown (hts _ hlink) (hts _ hin) (hts _ hco) rfl hml.symm rfl hd hdd (by show 2 * 0 + _ + 12 ≤ 64 * d; omega) K1
/-- a field written in a constructor: a reference -/
theorem xr_putR {k r ci j index : Nat} {fs : List (Option (Option Nat))} {tj : FieldType} (hd : decode mt.2.1 pc = .ok (.putfield index, 3)) (hF : xFp mt.1.cls index ci j true tj) (hi9 : mt.2.2.2.2 = true) (hL : lay[k]? = some (.inr (ci, fs))) (hj9 : j < fs.length) (hn : narrow tj (.ref (G.1 + r)) = .ref (G.1 + r) ∧ fits tj (.ref (G.1 + r)) = true)
    (K : RR G l d mc ms z mt Q (pc + 3) ll st (lay.set k (.inr (ci, fs.set j (some (some r))))) μ bc bs) : RR G l d mc ms z mt Q pc ll (xr G r :: xr G k :: st) lay μ bc bs := by
  intro p e s m args below meth c hC H locs cells slots ls hz hP hS h1 h2 hl
  have hC0 := hC
  obtain ⟨hx, hb, -, -, hown, hts, -, hin2, hK, hN, -, hB⟩ := hC
  obtain ⟨C, T, N, ty, hc, hj, hin, hty, hnm, hlk, hfin, htj, hdecl⟩ := hF
  have hap := va_apart (own := mt.1.cls) hts hin ty hty hnm hK hc
  obtain ⟨rr, g1, cell, q1, q2, q3, q4⟩ := hP k _ hL
  have hr : rr = (C, T, N) := Option.some.inj (g1.symm.trans hc)
  subst hr
  obtain ⟨hS9, hfc, kC, hkC, hkind⟩ := hK.1 ci _ hc
  obtain ⟨cf, kf, fi, f, hi, hsl⟩ := hS9 j hj
  have hlay := hts _ (hin _ (u_in_lay hj))
  unfold u_lay at hlay
  rw [if_pos hfin] at hlay
  have hst := (u_facts hfc hkC (u_lays hts hin hj) hi).1
  have hcf : m.cls = cf := by
    obtain ⟨_, _, c', _, _, _, -, -, hf', -, -, -, hown2, -⟩ := Cond.laysFinal_spec hlay
    have e1 : c' = cf := by have := hi.symm.trans hf'; simp at this; exact this.1.symm
    rw [hdecl] at hown2
    rw [← e1]; exact Option.some.inj (hown.symm.trans hown2)
  have h6 := u_fits hfc hkC hkind (Or.inr hlay) hi (hty j hj) (by rw [htj]; exact hn.1) (by rw [htj]; exact hn.2)
  refine W.putFinK hx hb hown (hts _ hlk) hi hst hcf (hin2 hi9) (by rw [q2]; exact h6) q1 q3 (by rw [hsl]; exact k2_hasslot (q4 j hj)) rfl rfl hd fun H' e1 e2 e3 => ?_
  rw [hsl] at e1 ⊢
  have hlen : j < (flds G (μ k) 0 fs).length := by rw [flds_len]; exact hj9
  have hk9 : k < lay.length := (List.getElem?_eq_some_iff.mp hL).1
  refine K p e s m args below meth c hC0 H' _ cells slots ls (by rw [e2, List.length_set]; exact hz) ?_ (hS.put e2 e3 (Nat.le_add_right _ _)) h1 h2 hl
  refine WP.relay hP hk9 ⟨_, hc, ?_⟩ e3
  have hset : (flds G (μ k) 0 fs).set j (xr G r) = flds G (μ k) 0 (fs.set j (some (some r))) := flds_setR (G := G) (f := μ k) (y := some r) (w := xr G r) rfl fs 0 j hj9
  show t_OB _ _ _ _ _ (vp_V (flds G (μ k) 0 (fs.set j (some (some r)))))
  rw [← hset]
  exact t_OB.to (V := updV (vp_V (flds G (μ k) 0 fs)) j (xr G r)) ⟨_, e1, q2, q3, t_set q4 hap hj (xr G r)⟩ (fun i _ => vp_updV_set hlen (xr G r) i)
theorem WP.push {H H1 : Heap} {L : xLay} (hz : H.size = G.1 + lay.length) (hP : WP G lay μ H) (o1 : ∀ q, q < H.size → H1[q]? = H[q]?) (hnew : va_at G.2.1 vwCl (G.1 + lay.length, rd G (μ lay.length) L) H1) : WP G (lay ++ [L]) μ H1 := by
  intro k L2 h2
  rcases Nat.lt_or_ge k lay.length with h | h
  · rw [List.getElem?_append_left h] at h2
    exact (hP k L2 h2).kept (o1 _ (by show G.1 + k < H.size; omega))
  · rw [List.getElem?_append_right h] at h2
    have h3 : k - lay.length < 1 := (List.getElem?_eq_some_iff.mp h2).1
    have h4 : k = lay.length := by omega
    subst h4
    rw [Nat.sub_self] at h2
    cases h2
    exact hnew
/-- an array is made -/
theorem xr_newarray {at9 : ArrayType} {t n : Nat} {x : Int} (hd : decode mt.2.1 pc = .ok (.newarray at9, 2)) (hw : Cond.arrayClass (newarray.typeOf at9) ∈ xTs) (hz9 : z = true) (hty : (xty G)[t]? = some (G.2.2.1 t, newarray.typeOf at9)) (hx : x = (n : Int)) (hn : n ≤ 1000000) (hb1 : 1 ≤ bc) (hb2 : n ≤ bs) (h0 : ∀ i, μ lay.length i = 0)
    (hcell : ∀ cA : ClassId, vp_cell cA (n, if t = 3 then .inr (.inl (fun _ => 0)) else .inl (fun _ => 0)) = arrV cA n (fun _ => defaultValue (newarray.typeOf at9)))
    (K : RR G l d mc ms z mt Q (pc + 2) ll (xr G lay.length :: st) (lay ++ [.inl (t, n)]) μ (bc - 1) (bs - n)) : RR G l d mc ms z mt Q pc ll (xi x :: st) lay μ bc bs := by
  intro p e s m args below meth c hC H locs cells slots ls hz hP hS h1 h2 hl
  have hC0 := hC
  obtain ⟨hx9, hb, -, -, hown, hts, -, -, hK, hN, -, hB⟩ := hC
  have hsz := hz.2 hz9
  have hxi : (Int32.ofInt x).toInt = x := x_ti (by omega)
  have hcb : componentBytes (newarray.typeOf at9) ≤ 8 := by cases at9 <;> decide
  refine va_newaK (N := n) hx9 hb (hts _ hw) rfl hd rfl (fun h => ?_) ?_ ?_ (by show cells + 1 ≤ mc; omega) (by show slots + n ≤ ms; omega) hsz fun H1 cA e1 z1 o1 hAr hNm => ?_
  · rw [x_lt0 (by omega)] at h; omega
  · rw [Int32.toNatClampNeg, hxi, hx]; rfl
  · exact Nat.le_trans (Nat.mul_le_mul hn hcb) (by decide)
  have hfc : s.vm.findClass ("[" ++ (newarray.typeOf at9).toString) = some (G.2.2.1 t) := by
    have h9 := (hK.2 t _ hty).2
    cases at9 <;> exact h9
  have hcA : cA = G.2.2.1 t := Option.some.inj (hNm.symm.trans hfc)
  subst hcA
  refine K p e s m args below meth c hC0 H1 locs (cells + 1) (slots + n) ls ⟨by rw [z1, List.length_append]; show G.1 + (lay.length + 1) ≤ _; omega, fun _ => by rw [z1, List.length_append]; show _ = G.1 + (lay.length + 1); omega⟩ (WP.push hsz hP (fun q hq => o1 q (by omega)) ?_) ⟨by rw [z1]; exact Nat.le_trans (hsz ▸ hS.1) (Nat.le_succ _), fun q g1 g2 => (o1 q (by have := hS.1; omega)).trans (hS.2.1 q g1 g2), hS.2.2⟩ (by omega) (by omega) hl
  show H1[G.1 + lay.length]? = some (vp_cell _ (n, if t = 3 then _ else _))
  rw [e1, ← hcell]
  congr 2
  have hz0 : μ lay.length = fun _ => 0 := funext h0
  by_cases h3 : t = 3
  · simp [h3, hz0]
  · simp [h3, hz0]
end CallsA
