/-! a throw of a callee, caught by the one row of this method's table, its class linked or not yet -/
section ExA
theorem xc_go {e : Jvm.Env} {S : State} {f : JFrame} {a : Addr} {x : ExceptionTableEntry} {cT : ClassId} {ce : Cell} (hx : covers x f.pc = true) (h0 : x.catchType ≠ 0) (hl : S.vm.ClassLinks e.platform f.method.cls x.catchType cT) (hc : S.heap[a]? = some ce) (ho : ∀ k, ce.vm ≠ .statics k) (h1 : ∃ k, S.vm.classes[ce.cls]? = some k) (h2 : ∃ k, S.vm.classes[cT]? = some k) (hf : S.vm.assignable ce.cls cT = true) (Q : Handler → Pre) (E : CtlPost) (d : Bool) (acts : List Action) :
    wp (findHandler.go f a [x]) Q E e d acts S ↔ Q (.found x.handlerPc) d acts (S.setVm (S.vm.noted f.method.cls x.catchType (.cls cT))) := by
  obtain ⟨r1, r2⟩ := (resolveClass_links e.toSetting hl).op (op := VmOp.resolveClass f.method.cls x.catchType) rfl
  have al : S.vm.Alike (S.vm.noted f.method.cls x.catchType (.cls cT)) := (Vm.Alike.refl S.vm).noted _ _ _
  obtain ⟨k1, e1⟩ := h1
  obtain ⟨k2, e2⟩ := h2
  obtain ⟨j1, f1, -⟩ := al.2.2 _ _ e1
  obtain ⟨j2, f2, -⟩ := al.2.2 _ _ e2
  have hf' : (S.vm.noted f.method.cls x.catchType (.cls cT)).assignable ce.cls cT = true := by rw [al.assignable]; exact hf
  unfold covers at hx
  simp [findHandler.go, hx, h0, r1, r2, hc, ho, f1, f2, hf', VmOp.dirties, VmOp.acts]
theorem xc_catch {p : Program} {l : Launch} {e : Jvm.Env} {R : Room} {s : State} {m : MethodId} {args : Array Value} {below : List Frame} {meth : Method} {c : Code} {T : State} {locs : List Loc} {cells slots : Nat} (X : Stand p l e R s m args below meth c T locs cells slots) {g : JFrame} (hg : g.method = m) {own name E : String} {ce : Cell} {q : Addr} {x : ExceptionTableEntry}
    (htab : c.exceptionTable.toList = [x]) (hx : covers x g.pc = true) (h0 : x.catchType ≠ 0) (hown : s.vm.findClass own = some m.cls) (hlink : (Cond.classLink own x.catchType name).before args s = true) (hcast : (Cond.castable E name).before args s = true) (hcell : T.heap[q]? = some ce) (hv : ce.vm = .none) (hcl : s.vm.findClass E = some ce.cls) :
    ∃ vm', Stand p l e R s m args below meth c (T.setVm vm') locs cells slots ∧ ∀ target, Steps p.tables e below ((T.setVm vm').setTop { g with pc := x.handlerPc, stack := [.ref q] }) target → Steps p.tables e below ((T.setTop g).pushFrame (.throwing q)) target := by
  subst hg
  have hpl : e.platform.magicAccessors = ({} : Platform).magicAccessors := by rw [X.admits.platform]
  obtain ⟨cE, cT, g1, g2, g3⟩ := Cond.castable_spec hcast
  cases Option.some.inj (g1.symm.trans hcl)
  obtain ⟨cT', g4, hcn⟩ := Cond.classLink_spec hown hlink e.platform hpl
  cases Option.some.inj (g2.symm.trans g4)
  obtain ⟨dk, _, _, kt, hd, _, _, _, _, hkt, _, hopen⟩ := hcn.here
  have hal := X.warmed.alike
  obtain ⟨kt', hkt', -⟩ := hal.2.2 _ _ hkt
  have hfit : T.vm.assignable ce.cls cT = true := by rw [hal.assignable]; exact g3
  have hW : s.WarmedH (T.vm.noted g.method.cls x.catchType (.cls cT)) := X.warmed.noted hd hopen (State.rightAt_cls hcn)
  refine ⟨_, X.noted hW, fun target hrest => ?_⟩
  have hfind : ∀ (Q : Handler → Pre) (E : CtlPost) (d : Bool) (acts : List Action), wp (findHandler g q) Q E e d acts ((T.setTop g).pushFrame (.throwing q)) ↔ Q (.found x.handlerPc) d acts (((T.setTop g).pushFrame (.throwing q)).setVm (T.vm.noted g.method.cls x.catchType (.cls cT))) := by
    intro Q E d acts
    rw [W.findHandler_eq (s := (T.setTop g).pushFrame (.throwing q)) (meth := meth) (code := c) X.method' X.code, htab]
    exact xc_go (S := (T.setTop g).pushFrame (.throwing q)) hx h0 (X.warmed.classLinks hcn) hcell (fun k => by rw [hv]; exact fun z => by cases z) (Vm.classAt_of_assignable hfit ⟨kt', hkt'⟩) ⟨kt', hkt'⟩ hfit Q E d acts
  have h := X.here
  obtain ⟨hgo, hw⟩ := h.throwing q
  refine Steps.head hgo hw ?_
  rw [stepThread_throwing (frames_entered h.top _)]
  have hst : ∀ r, (stepThrowing e ((T.setTop g).pushFrame (.throwing q)) q (.java g :: r)).Is ((((T.setTop g).pushFrame (.throwing q)).setVm (T.vm.noted g.method.cls x.catchType (.cls cT))).setFrames (.java { g with pc := x.handlerPc, stack := [.ref q] } :: r)) [] := by
    intro r
    simp only [stepThrowing, searchFrame, vmDo]
    generalize hr : Sem.go _ e false [] ((T.setTop g).pushFrame (.throwing q)) = res
    obtain ⟨as, rfl, ha⟩ := Sem.eq_ok_of hr (a := Handler.found x.handlerPc) (s' := ((T.setTop g).pushFrame (.throwing q)).setVm (T.vm.noted g.method.cls x.catchType (.cls cT))) (acts' := []) (by simp [hfind _ _ _ _])
    exact ⟨rfl, ha⟩
  rw [(hst _).1]
  obtain ⟨g₀, hg⟩ := Option.isSome_iff_exists.mp h.top
  obtain ⟨r, hr⟩ := State.topJava?_eq_some.mp hg
  have key : ∀ (u : State) (vm' : Vm) (F K : List Frame), ((u.setFrames F).setVm vm').setFrames K = (u.setVm vm').setFrames K := fun u vm' F K => by
    rw [show (u.setFrames F).setVm vm' = (u.setVm vm').setFrames F from rfl, State.setFrames_setFrames]
  have hr' : (T.setVm (T.vm.noted g.method.cls x.catchType (.cls cT))).frames = .java g₀ :: r := hr
  rw [State.setTop_of_frames _ hr'] at hrest
  rw [hr, List.tail_cons, State.pushFrame, key, State.setTop_of_frames _ hr, key]
  exact hrest
end ExA
section ExB
variable {G : xG} {l : Launch} {d mc ms pc bc bs : Nat} {z : Bool} {mt : xMT} {tb : List ExceptionTableEntry → Prop} {Z : List Frame → Array Value → State → State → Prop} {Q : Option Value → List xLay → xMem → Prop} {ll : xLL} {st : List Value} {lay : List xLay} {μ : xMem}
/-- RR with any end, and what is known of the method's table -/
def RZ (G : xG) (l : Launch) (d mc ms : Nat) (z : Bool) (mt : xMT) (tb : List ExceptionTableEntry → Prop) (Z : List Frame → Array Value → State → State → Prop) (pc : Nat) (ll : xLL) (st : List Value) (lay : List xLay) (μ : xMem) (bc bs : Nat) : Prop :=
  ∀ (p : Program) (e : Jvm.Env) (s : State) (m : MethodId) (args : Array Value) (below : List Frame) (meth : Method) (c : Code), xCx G mt p s m args meth c → tb c.exceptionTable.toList →
  ∀ (H : Heap) (locs : List Loc) (cells slots : Nat) (ls : Array Slot), szs z (G.1 + lay.length) H.size → WP G lay μ H → va_S (xA G) s.heap H locs → cells + bc ≤ mc → slots + bs ≤ ms → lv_has ls mt.2.2.1 (prs 0 ll) →
  W p l e (rmo d mc ms) s m args below meth c H locs cells slots (Z below args s) (F0 m pc ls st)
theorem RZ.ofRR {XC : String → State → State → Prop} (h : RR G l d mc ms z mt Q pc ll st lay μ bc bs) : RZ G l d mc ms z mt tb (fun below args s => vx_MQ below (QcR G z Q) XC args s mc ms (xA G)) pc ll st lay μ bc bs := by
  intro p e s m args below meth c hC _ H locs cells slots ls hz hP hS h1 h2 hl
  exact vx_ret (h p e s m args below meth c hC H locs cells slots ls hz hP hS h1 h2 hl)
theorem xz_iload_n {n : Fin 4} {x : Int} (hd : decode mt.2.1 pc = .ok (.iload_n n, 1)) (hx : ll[(n : Nat)]? = some (some (xi x))) (k : RZ G l d mc ms z mt tb Z (pc + 1) ll (xi x :: st) lay μ bc bs) : RZ G l d mc ms z mt tb Z pc ll st lay μ bc bs := by
  intro p e s m args below meth c hC ht H locs cells slots ls hz hP hS h1 h2 hl
  exact lv_iload_n hC.1 hC.2.1 hd rfl (x_lh hl hx) (k p e s m args below meth c hC ht H locs cells slots ls hz hP hS h1 h2 hl)
theorem xz_aload_n {n : Fin 4} {x : Nat} (hd : decode mt.2.1 pc = .ok (.aload_n n, 1)) (hx : ll[(n : Nat)]? = some (some (xr G x))) (k : RZ G l d mc ms z mt tb Z (pc + 1) ll (xr G x :: st) lay μ bc bs) : RZ G l d mc ms z mt tb Z pc ll st lay μ bc bs := by
  intro p e s m args below meth c hC ht H locs cells slots ls hz hP hS h1 h2 hl
  exact lv_aload_n hC.1 hC.2.1 hd rfl (x_lh hl hx) (k p e s m args below meth c hC ht H locs cells slots ls hz hP hS h1 h2 hl)
theorem xz_iconst {n : Int} (hd : decode mt.2.1 pc = .ok (.iconst n, 1)) (k : RZ G l d mc ms z mt tb Z (pc + 1) ll (xi n :: st) lay μ bc bs) : RZ G l d mc ms z mt tb Z pc ll st lay μ bc bs := by
  intro p e s m args below meth c hC ht H locs cells slots ls hz hP hS h1 h2 hl
  exact lv_iconst hC.1 hC.2.1 hd rfl (k p e s m args below meth c hC ht H locs cells slots ls hz hP hS h1 h2 hl)
theorem xz_if_lt {x : Int} {off : Int} {tgt : Nat} (hd : decode mt.2.1 pc = .ok (.ifCond .lt off, 3)) (ht : (pc : Int) + off = (tgt : Int)) (hx : iR x) (kt : x < 0 → RZ G l d mc ms z mt tb Z tgt ll st lay μ bc bs) (kf : ¬ (x < 0) → RZ G l d mc ms z mt tb Z (pc + 3) ll st lay μ bc bs) : RZ G l d mc ms z mt tb Z pc ll (xi x :: st) lay μ bc bs := by
  intro p e s m args below meth c hC ht9 H locs cells slots ls hz hP hS h1 h2 hl
  exact lv_if_lt hC.1 hC.2.1 hd ht (fun h => kt ((x_lt0 hx).mp h) p e s m args below meth c hC ht9 H locs cells slots ls hz hP hS h1 h2 hl) (fun h => kf ((fun q => h ((x_lt0 hx).mpr q))) p e s m args below meth c hC ht9 H locs cells slots ls hz hP hS h1 h2 hl)
theorem xz_icmp_lt {x y : Int} {off : Int} {tgt : Nat} (hd : decode mt.2.1 pc = .ok (.if_icmp .lt off, 3)) (ht : (pc : Int) + off = (tgt : Int)) (hx : iR x) (hy : iR y) (kt : x < y → RZ G l d mc ms z mt tb Z tgt ll st lay μ bc bs) (kf : ¬ (x < y) → RZ G l d mc ms z mt tb Z (pc + 3) ll st lay μ bc bs) : RZ G l d mc ms z mt tb Z pc ll (xi y :: xi x :: st) lay μ bc bs := by
  intro p e s m args below meth c hC ht9 H locs cells slots ls hz hP hS h1 h2 hl
  exact lv_icmp_lt hC.1 hC.2.1 hd ht (fun h => kt ((x_lt hx hy).mp h) p e s m args below meth c hC ht9 H locs cells slots ls hz hP hS h1 h2 hl) (fun h => kf ((fun q => h ((x_lt hx hy).mpr q))) p e s m args below meth c hC ht9 H locs cells slots ls hz hP hS h1 h2 hl)
theorem xz_icmp_ge {x y : Int} {off : Int} {tgt : Nat} (hd : decode mt.2.1 pc = .ok (.if_icmp .ge off, 3)) (ht : (pc : Int) + off = (tgt : Int)) (hx : iR x) (hy : iR y) (kt : y ≤ x → RZ G l d mc ms z mt tb Z tgt ll st lay μ bc bs) (kf : ¬ (y ≤ x) → RZ G l d mc ms z mt tb Z (pc + 3) ll st lay μ bc bs) : RZ G l d mc ms z mt tb Z pc ll (xi y :: xi x :: st) lay μ bc bs := by
  intro p e s m args below meth c hC ht9 H locs cells slots ls hz hP hS h1 h2 hl
  exact lv_icmp_ge hC.1 hC.2.1 hd ht (fun h => kt ((x_ge hx hy).mp h) p e s m args below meth c hC ht9 H locs cells slots ls hz hP hS h1 h2 hl) (fun h => kf ((fun q => h ((x_ge hx hy).mpr q))) p e s m args below meth c hC ht9 H locs cells slots ls hz hP hS h1 h2 hl)
theorem xz_icmp_le {x y : Int} {off : Int} {tgt : Nat} (hd : decode mt.2.1 pc = .ok (.if_icmp .le off, 3)) (ht : (pc : Int) + off = (tgt : Int)) (hx : iR x) (hy : iR y) (kt : x ≤ y → RZ G l d mc ms z mt tb Z tgt ll st lay μ bc bs) (kf : ¬ (x ≤ y) → RZ G l d mc ms z mt tb Z (pc + 3) ll st lay μ bc bs) : RZ G l d mc ms z mt tb Z pc ll (xi y :: xi x :: st) lay μ bc bs := by
  intro p e s m args below meth c hC ht9 H locs cells slots ls hz hP hS h1 h2 hl
  exact lv_icmp_le hC.1 hC.2.1 hd ht (fun h => kt ((x_le hx hy).mp h) p e s m args below meth c hC ht9 H locs cells slots ls hz hP hS h1 h2 hl) (fun h => kf ((fun q => h ((x_le hx hy).mpr q))) p e s m args below meth c hC ht9 H locs cells slots ls hz hP hS h1 h2 hl)
theorem xz_get {k ci j index : Nat} {fs : List (Option (Option Nat))} {fx : Option (Option Nat)} (hd : decode mt.2.1 pc = .ok (.getfield index, 3)) (hF : xFl mt.1.cls index ci j) (hL : lay[k]? = some (.inr (ci, fs))) (hv : fs[j]? = some fx)
    (K : RZ G l d mc ms z mt tb Z (pc + 3) ll (fv G (μ k) j fx :: st) lay μ bc bs) : RZ G l d mc ms z mt tb Z pc ll (xr G k :: st) lay μ bc bs := by
  intro p e s m args below meth c hC ht9 H locs cells slots ls hz hP hS h1 h2 hl
  obtain ⟨C, T, N, hc, hj, hin, hlk⟩ := hF
  have h0 := x_one (hP k _ hL)
  have K1 := K p e s m args below meth c hC ht9 H locs cells slots ls hz hP hS h1 h2 hl
  obtain ⟨hx, hb, -, -, hown, hts, -, -, hK, hN, -, -⟩ := hC
  have hg : (flds G (μ k) 0 fs)[j]? = some (fv G (μ k) j fx) := by rw [flds_get fs 0 j hv, Nat.zero_add]
  rcases hlk with hlk | ⟨host, hlk⟩
  · exact va_get hx hb hts hin hown hK h0 0 rfl hc j hj (hts _ hlk) (fun _ h => h) hg hd K1
  · exact va_getN hx hb hts hin hown hK h0 0 rfl hc j hj (va_Nw.use rfl (hN _ hlk)) (fun _ h => h) hg hd K1
theorem xz_astA {n : Fin 4} {a : Nat} (hd : decode mt.2.1 pc = .ok (.astore_n n, 1)) (hi : (n : Nat) < mt.2.2.1) (hk : x_chk ll n = true) (k : RZ G l d mc ms z mt tb Z (pc + 1) (ll.set n (some (.ref a))) st lay μ bc bs) : RZ G l d mc ms z mt tb Z pc ll (.ref a :: st) lay μ bc bs := by
  intro p e s m args below meth c hC ht H locs cells slots ls hz hP hS h1 h2 hl
  exact lv_astore_n hC.1 hC.2.1 hd rfl hl hi rfl (fun ls' h' => k p e s m args below meth c hC ht H locs cells slots ls' hz hP hS h1 h2 (x_set1 hk h'))
theorem xz_astA' {i : Nat} {a : Nat} (hd : decode mt.2.1 pc = .ok (.astore i, 2)) (hi : i < mt.2.2.1) (hk : x_chk ll i = true) (k : RZ G l d mc ms z mt tb Z (pc + 2) (ll.set i (some (.ref a))) st lay μ bc bs) : RZ G l d mc ms z mt tb Z pc ll (.ref a :: st) lay μ bc bs := by
  intro p e s m args below meth c hC ht H locs cells slots ls hz hP hS h1 h2 hl
  exact lv_astore hC.1 hC.2.1 hd hl hi rfl (fun ls' h' => k p e s m args below meth c hC ht H locs cells slots ls' hz hP hS h1 h2 (x_set1 hk h'))
/-- what is known behind a throw -/
def xEx (G : xG) (w : Prop) (lay : List xLay) (μ : xMem) : String → State → State → Prop := fun E st t => E = "java/util/NoSuchElementException" ∧ w ∧ szs false (G.1 + lay.length) t.heap.size ∧ WP G lay μ t.heap ∧ va_F (xA G) st t
theorem xz_throw {w : Prop} {Qc : Array Value → State → Outcome → State → Prop} {names : List String} {ik ic : Nat} (hl : l.stackTraces = false) (hw : w) (d0 : decode mt.2.1 pc = .ok (.new ik, 3)) (d3 : decode mt.2.1 (pc + 3) = .ok (.dup, 1)) (d4 : decode mt.2.1 (pc + 4) = .ok (.invokespecial ic, 3)) (d7 : decode mt.2.1 (pc + 7) = .ok (.athrow, 1))
    (hnames : ∀ n ∈ names, Bundle.fit n = true) (hk : Cond.classLink mt.1.cls ik "java/util/NoSuchElementException" ∈ xTs) (hini : Cond.initialized "java/util/NoSuchElementException" ∈ xTs) (hat : ∀ w ∈ vx_at0 mt.1.cls ic "java/util/NoSuchElementException" names, w ∈ xTs ∨ (w ∈ xTn ∧ w.onTables = true))
    (hgood : ∀ w ∈ Cond.classLink mt.1.cls ik "java/util/NoSuchElementException" :: Cond.initialized "java/util/NoSuchElementException" :: vx_at0 mt.1.cls ic "java/util/NoSuchElementException" names, vx_ot w = true) (hd1 : names.length + 3 < d) (hd2 : 13 * (names.length + 1) + 42 ≤ 64 * d) (hb1 : 1 ≤ bc) (hb2 : 6 ≤ bs) :
    RZ G l d mc ms false mt (fun L => ∀ x ∈ L, False) (fun below args s => vx_MQ below Qc (xEx G w lay μ) args s mc ms (xA G)) pc ll [] lay μ bc bs := by
  intro p e s m args below meth c hC ht9 H locs cells slots ls hz hP hS h1 h2 hl9
  have hml := x_len0 hC hl9
  obtain ⟨hx, hb, -, -, hown, hts, hlk, -, hK, hN, hT, hB⟩ := hC
  refine vx_throw0 (cls := "java/util/NoSuchElementException") (names := names) (A := xA G) hx hb hl hown (by decide +kernel) hnames (hts _ hk) (hts _ hini) (fun w hw => (hat w hw).elim (fun h => hts _ h) (fun h => va_Nw.use h.2 (hN _ h.1))) hgood hT.2.2.2.2.2.1 hT.2.2.2.2.2.2.1 hS hml.symm d0 d3 d4 d7 (fun x hx => (ht9 x hx).elim) hd1 ?_ ?_ ?_ hlk ?_ hS.2.2 (by omega) (by omega)
  · show 0 + (13 * (names.length + 1) + 42) ≤ 64 * d
    omega
  · show cells + 1 ≤ mc
    omega
  · show slots + 6 ≤ ms
    omega
  · intro t hA hsz hk
    refine ⟨rfl, hw, ⟨Nat.le_trans hz.1 hsz, fun h => by cases h⟩, fun k L hL => ?_, Nat.le_trans hS.1 hsz, fun q h1 h2 => (hk q (Nat.lt_of_lt_of_le h1 hS.1)).trans (hS.2.1 q h1 h2)⟩
    have := hP k L hL
    exact this.kept (hk _ this.lt)
end ExB
