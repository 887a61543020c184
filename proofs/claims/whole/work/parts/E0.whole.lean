/-! THE CLAIM OUT OF ONE WALK OF THE LAW'S BODY. Your part is whole_start (and what it stands on); all else here is the same for every law, but numbers. -/
def R_law : String := "ClueRoomLaw"
def lw_P (b : Addr) (xs : List Int32) (args : Array Value) (s : State) : Prop := args = #[.ref b] ∧ s.IntsAt b xs ∧ xs.length ≤ 3072 ∧ (Jvm.Cond.and given_1 narrow_1).before args s = true
def lw_Q (_ : Array Value) (s : State) (o : Outcome) (t : State) : Prop := o = .returned (some (.int 1)) ∧ Framed s o t [] 601024 7293033
def lw_Z (below : List Frame) (a : Array Value) (s : State) : State → Prop := fun t => ∃ o, t.status = .running ∧ Ended t below o ∧ lw_Q a s o t
/-- the law's own end, with 1 on the stack, nothing written that was there before, its room as the claim has it -/
theorem lw_ret {p : Program} {l : Launch} {e : Jvm.Env} {s : State} {m : MethodId} {below : List Frame} {meth : Method} {c : Code} {b : Nat} (hx : p.tables.exec = Jvm.exec) (hb : c.code = code) (hr : meth.sig.returnType = ret) (hlocks : meth.locks = false) {pc : Nat} {H : Heap} {ls : Array Slot} (hdg : decode code pc = .ok (.ireturn, 1)) : W p l e room_1 s m #[Value.ref b] below meth c H [] 601024 7293033 (lw_Z below #[Value.ref b] s) (F0 m pc ls [.int 1]) := by
  intro T hT X
  obtain ⟨fs, hret, hrun, hended, hW, hframe⟩ := X.leave (v := some (.int 1)) (hlocks := hlocks) (fun h => by rw [hr] at h; cases h)
  have hmeth' : T.vm.method? m = some meth := X.method'
  refine ⟨T.setFrames fs, ?_, .returned (some (.int 1)), hrun, hended, rfl, ⟨_, rfl⟩, hW, hframe⟩
  jvm_step X.here [X.here.top, hx, hb, hdg, hmeth', hr, ret, narrow_b1]
  (try refine ⟨rfl, ?_⟩); (try refine ⟨rfl, ?_⟩)
  first | (intro acts; rw [hret _ acts rfl rfl rfl]) | rw [hret _ _ rfl rfl rfl]
  exact Steps.refl _
/-- what holds at the law's entry: the machine, the code, the tables' words (any of lw_tbl by 'hts w (by decide +kernel)'), the script of L ints xs at the cell b, what the Statement gives of the start (any of its parts by flat_of_before) -/
def lw_At (p : Program) (s : State) (m : MethodId) (meth : Method) (c : Code) (b L : Nat) (xs : Nat → Int32) : Prop :=
  p.tables.exec = Jvm.exec ∧ c.code = code ∧ meth.sig.returnType = ret ∧ c.maxLocals = 7 ∧ s.vm.findClass R_law = some m.cls ∧ (∀ w ∈ lw_tbl, w.before #[Value.ref b] s = true) ∧ va_X b L xs s s.heap ∧ b < s.heap.size ∧ meth.locks = false ∧ (Jvm.Cond.and given_1 narrow_1).before #[Value.ref b] s = true
/-- less room -/
theorem stand_less {p : Program} {l : Launch} {e : Jvm.Env} {R R' : Room} {s : State} {m : MethodId} {args : Array Value} {below : List Frame} {meth : Method} {c : Code} {T : State} {locs : List Loc} {cells slots : Nat} (X : Stand p l e R s m args below meth c T locs cells slots) (hf : R'.frames ≤ R.frames) (hl : R'.locals ≤ R.locals) (hc : R'.cells ≤ R.cells) (hs : R'.slots ≤ R.slots) : Stand p l e R' s m args below meth c T locs cells slots := by
  refine ⟨X.admits, X.cas, X.clock, X.frames, ?_, X.hears, X.method, X.code, X.here, X.tail, X.warmed, X.limits, X.bytes, X.same⟩
  have h := X.room
  simp only [State.hasRoom, Bool.and_eq_true, decide_eq_true_eq] at h ⊢
  obtain ⟨⟨⟨⟨h1, h2, h3, h4, h5, h6⟩, h7⟩, h8⟩, h9⟩ := h
  exact ⟨⟨⟨⟨by omega, by omega, by omega, by omega, by omega, h6⟩, by omega⟩, by omega⟩, h9⟩
theorem nest_tab : ∀ w : Cond, xnest w = true → w.onTables = true := by
  intro w h
  cases w <;> first | rfl | (simp [xnest] at h)
theorem i32_nat (x : Int32) : Int32.ofNat x.toUInt32.toNat = x := by
  apply Int32.toUInt32_inj.mp
  rw [Int32.toUInt32_ofNat', UInt32.ofNat_toNat]
set_option maxHeartbeats 4000000 in
set_option maxRecDepth 100000 in
/-- the law, from its entry, for every script of at most 3072 ints -/
theorem whole_start {p : Program} {e : Jvm.Env} {s : State} {m : MethodId} {below : List Frame} {meth : Method} {c : Code} (l : Launch) (hl9 : l.stackTraces = false) {b L : Nat} {xs : Nat → Int32} (hL : L ≤ 3072) (C0 : lw_At p s m meth c b L xs) : W p l e room_1 s m #[Value.ref b] below meth c s.heap [] 0 0 (lw_Z below #[Value.ref b] s) (entryFrame m ([Value.ref b] : List Value).toArray 7) := by
  obtain ⟨hx, hb, hr, hml, hown, hts, hX, hbl, hlocks, hgv⟩ := id C0
  have hf := flat_of_before _ hgv
  have hT : ∀ w ∈ xTs, w.before #[Value.ref b] s = true := fun w hw => hts w (List.mem_filter.mp hw).1
  have hNW : xNW s := fun w hw => va_tabs (nest_tab w (List.mem_filter.mp hw).2) rfl (hts w (List.mem_filter.mp hw).1)
  have hA : ∀ a : Nat, a < s.heap.size → ¬ (fun q : Nat => s.heap.size ≤ q) a := fun a h => Nat.not_le.mpr h
  obtain ⟨c0, i0, k0⟩ := u_known (C := RX0) (T := TX0) (N := 5) (n := 5) hT inC0 (hT _ wn_X0)
  obtain ⟨c1, i1, k1⟩ := u_known (C := RX1) (T := TX1) (N := 6) (n := 6) hT inC1 (hT _ wn_X1)
  obtain ⟨c2, i2, k2⟩ := u_known (C := RX2) (T := TX2) (N := 11) (n := 11) hT inC2 (hT _ wn_X2)
  obtain ⟨c3, i3, k3⟩ := u_known (C := RX3) (T := TX3) (N := 9) (n := 9) hT inC3 (hT _ wn_X3)
  obtain ⟨c4, i4, k4⟩ := u_known (C := RX4) (T := TX4) (N := 3) (n := 3) hT inC4 (hT _ wn_X4)
  obtain ⟨c5, i5, k5⟩ := u_known (C := RX5) (T := TX5) (N := 9) (n := 9) hT inC5 (hT _ wn_X5)
  obtain ⟨c6, i6, k6⟩ := u_known (C := RX6) (T := TX6) (N := 8) (n := 8) hT inC6 (hT _ wn_X6)
  obtain ⟨c7, i7, k7⟩ := u_known (C := RX7) (T := TX7) (N := 7) (n := 7) hT inC7 (hT _ wn_X7)
  obtain ⟨c8, i8, k8⟩ := u_known (C := RX8) (T := TX8) (N := 2) (n := 2) hT inC8 (hT _ wn_X8)
  obtain ⟨c9, i9, k9⟩ := u_known (C := RX9) (T := TX9) (N := 11) (n := 11) hT inC9 (hT _ wn_X9)
  obtain ⟨c10, i10, k10⟩ := u_known (C := RX10) (T := TX10) (N := 10) (n := 10) hT inC10 (hT _ wn_X10)
  obtain ⟨c11, i11, k11⟩ := u_known (C := RX11) (T := TX11) (N := 13) (n := 13) hT inC11 (hT _ wn_X11)
  obtain ⟨c12, i12, k12⟩ := u_known (C := RX12) (T := TX12) (N := 82) (n := 82) hT inC12 (hT _ wn_X12)
  obtain ⟨dC, dI, hKc⟩ : ∃ (dC : Nat → ClassId) (dI : Nat → Nat → Nat), ∀ (k : Nat) (q : vw_C), vwCl[k]? = some q → u_Kn s q.1 q.2.1 q.2.2 (dC k) (dI k) := by
    refine ⟨fun k => if k = 0 then c0 else if k = 1 then c1 else if k = 2 then c2 else if k = 3 then c3 else if k = 4 then c4 else if k = 5 then c5 else if k = 6 then c6 else if k = 7 then c7 else if k = 8 then c8 else if k = 9 then c9 else if k = 10 then c10 else if k = 11 then c11 else c12, fun k => if k = 0 then i0 else if k = 1 then i1 else if k = 2 then i2 else if k = 3 then i3 else if k = 4 then i4 else if k = 5 then i5 else if k = 6 then i6 else if k = 7 then i7 else if k = 8 then i8 else if k = 9 then i9 else if k = 10 then i10 else if k = 11 then i11 else i12, ?_⟩
    intro k q hq
    match k, hq with
    | 0, hq => cases hq; exact k0
    | 1, hq => cases hq; exact k1
    | 2, hq => cases hq; exact k2
    | 3, hq => cases hq; exact k3
    | 4, hq => cases hq; exact k4
    | 5, hq => cases hq; exact k5
    | 6, hq => cases hq; exact k6
    | 7, hq => cases hq; exact k7
    | 8, hq => cases hq; exact k8
    | 9, hq => cases hq; exact k9
    | 10, hq => cases hq; exact k10
    | 11, hq => cases hq; exact k11
    | 12, hq => cases hq; exact k12
    | k + 13, hq => simp [vwCl] at hq
  have arr : ∀ ty : FieldType, (Cond.arrayClass ty).before #[Value.ref b] s = true → ∃ cA, s.vm.findClass ("[" ++ ty.toString) = some cA ∧ ArrOfT s cA ty := by
    intro ty h
    obtain ⟨cA, kA, comp, h1, h2, h3⟩ := Cond.arrayClass_spec h
    exact ⟨cA, h1, fun n z => ⟨fun k h => (by cases h), kA, h2, comp, h3⟩⟩
  obtain ⟨t0, f0, g0⟩ := arr .int (hT _ w_ac_int)
  obtain ⟨t1, f1, g1⟩ := arr .byte (hT _ w_ac_byte)
  obtain ⟨t2, f2, g2⟩ := arr .boolean (hT _ w_ac_boolean)
  obtain ⟨t3, f3, g3⟩ := arr .long (hT _ w_ac_long)
  obtain ⟨a0, ha0, hT0⟩ := va_Tof (tm := .static "ClueRoom" "PLAY_SYMBOLS" "[I") (ty := .int) (N := 10) (f := fun j => xi (xPS j)) (A := fun q => s.heap.size ≤ q) (by decide) (hf _ (by decide +kernel)) (va_eqt (hf _ (by decide +kernel))) (fun j hj => by
    rcases (show j = 0 ∨ j = 1 ∨ j = 2 ∨ j = 3 ∨ j = 4 ∨ j = 5 ∨ j = 6 ∨ j = 7 ∨ j = 8 ∨ j = 9 by omega) with rfl | rfl | rfl | rfl | rfl | rfl | rfl | rfl | rfl | rfl
    · exact va_eqt (hf _ (by decide +kernel))
    · exact va_eqt (hf _ (by decide +kernel))
    · exact va_eqt (hf _ (by decide +kernel))
    · exact va_eqt (hf _ (by decide +kernel))
    · exact va_eqt (hf _ (by decide +kernel))
    · exact va_eqt (hf _ (by decide +kernel))
    · exact va_eqt (hf _ (by decide +kernel))
    · exact va_eqt (hf _ (by decide +kernel))
    · exact va_eqt (hf _ (by decide +kernel))
    · exact va_eqt (hf _ (by decide +kernel))) hA
  have z0 : va_Z "ClueRoom" "PLAY_SYMBOLS" "[I" (.ref a0) (fun q => s.heap.size ≤ q) s s.heap := va_Zref (hts _ (by decide +kernel)) (hts _ (by decide +kernel)) ha0 hA
  obtain ⟨adK, adV, hS9, hev⟩ := vk_Sof (N := 1) (tm := fun _ => .string "ClueRoom$Reader" 82) (len := [32]) (byt := [xSymB]) (A := fun q => s.heap.size ≤ q) (args := #[Value.ref b]) (s := s) (fun i hi => by rcases (show i = 0 by omega) with rfl; decide) (fun i hi => hf _ (by decide +kernel)) (fun i hi => hf _ (by decide +kernel)) (fun i hi => hf _ (by decide +kernel)) (fun i hi => by rcases (show i = 0 by omega) with rfl; exact hf _ (by decide +kernel)) (fun i hi j hj => by
    rcases (show i = 0 by omega) with rfl
    have hj : j < 32 := hj
    rcases (show j = 0 ∨ j = 1 ∨ j = 2 ∨ j = 3 ∨ j = 4 ∨ j = 5 ∨ j = 6 ∨ j = 7 ∨ j = 8 ∨ j = 9 ∨ j = 10 ∨ j = 11 ∨ j = 12 ∨ j = 13 ∨ j = 14 ∨ j = 15 ∨ j = 16 ∨ j = 17 ∨ j = 18 ∨ j = 19 ∨ j = 20 ∨ j = 21 ∨ j = 22 ∨ j = 23 ∨ j = 24 ∨ j = 25 ∨ j = 26 ∨ j = 27 ∨ j = 28 ∨ j = 29 ∨ j = 30 ∨ j = 31 by omega) with rfl | rfl | rfl | rfl | rfl | rfl | rfl | rfl | rfl | rfl | rfl | rfl | rfl | rfl | rfl | rfl | rfl | rfl | rfl | rfl | rfl | rfl | rfl | rfl | rfl | rfl | rfl | rfl | rfl | rfl | rfl | rfl
    · exact hf _ (by decide +kernel)
    · exact hf _ (by decide +kernel)
    · exact hf _ (by decide +kernel)
    · exact hf _ (by decide +kernel)
    · exact hf _ (by decide +kernel)
    · exact hf _ (by decide +kernel)
    · exact hf _ (by decide +kernel)
    · exact hf _ (by decide +kernel)
    · exact hf _ (by decide +kernel)
    · exact hf _ (by decide +kernel)
    · exact hf _ (by decide +kernel)
    · exact hf _ (by decide +kernel)
    · exact hf _ (by decide +kernel)
    · exact hf _ (by decide +kernel)
    · exact hf _ (by decide +kernel)
    · exact hf _ (by decide +kernel)
    · exact hf _ (by decide +kernel)
    · exact hf _ (by decide +kernel)
    · exact hf _ (by decide +kernel)
    · exact hf _ (by decide +kernel)
    · exact hf _ (by decide +kernel)
    · exact hf _ (by decide +kernel)
    · exact hf _ (by decide +kernel)
    · exact hf _ (by decide +kernel)
    · exact hf _ (by decide +kernel)
    · exact hf _ (by decide +kernel)
    · exact hf _ (by decide +kernel)
    · exact hf _ (by decide +kernel)
    · exact hf _ (by decide +kernel)
    · exact hf _ (by decide +kernel)
    · exact hf _ (by decide +kernel)
    · exact hf _ (by decide +kernel)) (fun i j hi hj hij => absurd (by omega) hij) hA
  have hR1 : vk_R "ClueRoom$Reader" 82 xSym (adK 0) s := vk_R.of (A := #[Value.ref b]) (hts _ (by decide +kernel)) (hev 0 (by decide))
  have hS1 : vk_S 1 [32] [xSymB] (fun _ => adK 0) (fun _ => adV 0) (fun q => s.heap.size ≤ q) s s.heap := ⟨fun i hi => by rcases (show i = 0 by omega) with rfl; exact hS9.1 0 hi, fun i j hi hj _ => by omega⟩
  have z1 : va_Z "java/lang/String" "COMPACT_STRINGS" "Z" (.int 1) (fun q => s.heap.size ≤ q) s s.heap := va_Zof (hts _ (by decide +kernel)) (hts _ (by decide +kernel)) (va_eqt (hf _ (by decide +kernel))) hA
  have z2 : vx_Zq Bundle.tN "UNASSIGNED_STACK" Bundle.steD (fun q => s.heap.size ≤ q) s s.heap := vx_Zqof (hts _ (by decide +kernel)) (hts _ (by decide +kernel)) (hf _ (by decide +kernel)) hA
  have z3 : vx_Zq Bundle.tN "SUPPRESSED_SENTINEL" Bundle.listD (fun q => s.heap.size ≤ q) s s.heap := vx_Zqof (hts _ (by decide +kernel)) (hts _ (by decide +kernel)) (hf _ (by decide +kernel)) hA
  have z4 : va_Zq "jdk/internal/util/Preconditions" "SIOOBE_FORMATTER" "Ljava/util/function/BiFunction;" (fun q => s.heap.size ≤ q) s s.heap := va_Zqof (hts _ (by decide +kernel)) (hts _ (by decide +kernel)) (hf _ (by decide +kernel)) hA
  obtain ⟨ad, q0, q1, q2, q3, q4, q5⟩ : ∃ ad : Nat → Nat, ad 0 = a0 ∧ ad 1 = adK 0 ∧ ad 2 = adV 0 ∧ ad 3 = b ∧ ad 4 = L ∧ ∀ j, ad (5 + j) = (xs j).toUInt32.toNat := ⟨fun n => if n = 0 then a0 else if n = 1 then adK 0 else if n = 2 then adV 0 else if n = 3 then b else if n = 4 then L else (xs (n - 5)).toUInt32.toNat, rfl, rfl, rfl, rfl, rfl, fun j => by
    simp only
    rw [if_neg (by omega), if_neg (by omega), if_neg (by omega), if_neg (by omega), if_neg (by omega), show 5 + j - 5 = j by omega]⟩
  obtain ⟨ca, u0, u1, u2, u3⟩ : ∃ ca : Nat → ClassId, ca 0 = t0 ∧ ca 1 = t1 ∧ ca 2 = t2 ∧ ca 3 = t3 := ⟨fun n => if n = 0 then t0 else if n = 1 then t1 else if n = 2 then t2 else t3, rfl, rfl, rfl, rfl⟩
  obtain ⟨G, hG⟩ : ∃ G : xG, G = (s.heap.size, (dC, dI), ca, ad) := ⟨_, rfl⟩
  have eA : xA G = fun q => s.heap.size ≤ q := by rw [hG]; rfl
  have hK : va_K G.2.1 vwCl (xty G) s := by
    rw [hG]
    refine ⟨hKc, fun k q hk => ?_⟩
    match k, hk with
    | 0, hk => cases hk; exact ⟨u0 ▸ g0, u0 ▸ f0⟩
    | 1, hk => cases hk; exact ⟨u1 ▸ g1, u1 ▸ f1⟩
    | 2, hk => cases hk; exact ⟨u2 ▸ g2, u2 ▸ f2⟩
    | 3, hk => cases hk; exact ⟨u3 ▸ g3, u3 ▸ f3⟩
    | k + 4, hk => simp [xty] at hk
  have hscr : ∀ j, xi (xScr G j) = .int (xs j) := fun j => by
    unfold xi xScr
    rw [Int32.ofInt_toInt, hG]
    show Value.int (Int32.ofNat (ad (5 + j))) = _
    rw [q5 j, i32_nat]
  have hSta : xSta G s s.heap := by
    unfold xSta
    rw [eA]
    have e0 : G.2.2.2 0 = a0 := by rw [hG]; exact q0
    have e1 : G.2.2.2 1 = adK 0 := by rw [hG]; exact q1
    have e2 : G.2.2.2 2 = adV 0 := by rw [hG]; exact q2
    have e3 : G.2.2.2 3 = b := by rw [hG]; exact q3
    have e4 : G.2.2.2 4 = L := by rw [hG]; exact q4
    rw [e0, e1, e2, e3, e4]
    refine ⟨z0, hT0, hR1, hS1, z1, z2, z3, z4, ?_⟩
    obtain ⟨scr, v1, v2, v3, v4, v5⟩ := hX
    refine ⟨scr, v1, v2, v3, by omega, by rw [v4]; rfl, fun j hj => ?_, Nat.not_le.mpr hbl⟩
    rw [v5 j hj, hscr j]
  have e3 : G.2.2.2 3 = b := by rw [hG]; exact q3
  have e4 : G.2.2.2 4 = L := by rw [hG]; exact q4
  have eG : G.1 = s.heap.size := by rw [hG]
  have hCx : xCx G mL_law p s m #[Value.ref b] meth c := ⟨hx, hb, hr, hml, hown, hT, hlocks, fun h => by cases h, hK, hNW, hSta, by rw [eG]; exact Nat.le_refl _⟩
  have hle := lv_entry ([.ref b]) (n := 7) (Nat.le_of_ble_eq_true rfl)
  rw [lg_entry_eq]
  generalize (lg_sl ([.ref b]) ++ List.replicate (7 - (lg_sl ([.ref b])).length) Slot.unset).toArray = ls at hle ⊢
  have hl7 : lv_has ls 7 (prs 0 [some (.ref (G.2.2.2 3)), none, none, none, none, none, none]) := by rw [e3]; exact hle
  have main := law_init (G := G) (l := l) hl9 (by rw [e4]; exact hL) p e s m #[Value.ref b] below meth c hCx trivial s.heap [] 0 0 ls ⟨by rw [eG]; exact Nat.le_refl _, fun _ => by rw [eG]; rfl⟩ (fun k L' h => by simp at h) va_S.rf (by omega) (by omega) hl7
  intro T hT9 X
  obtain ⟨t, a1, o, b1, b2, ⟨r, lay', μ', o1, o2, _⟩, L9, ⟨w1, w2, w3⟩, w4⟩ := main T hT9 (stand_less X (by decide) (by decide) (by decide) (by decide))
  refine ⟨t, a1, o, b1, b2, ?_, w1, w2, ?_⟩
  · rw [o1, o2]; rfl
  · obtain ⟨y1, y2, y3, y4, y5, y6⟩ := w3
    refine ⟨y1, y2, y3, y4, y5, fun a c9 h9 => ?_⟩
    obtain ⟨c8, j1, j2, j3, j4⟩ := y6 a c9 h9
    refine ⟨c8, j1, j2, j3, fun i _ => j4 i (fun hm => ?_)⟩
    have hq := w4 _ hm
    rw [eA] at hq
    exact absurd (Array.getElem?_eq_some_iff.mp h9).1 (Nat.not_lt.mpr hq)
set_option maxHeartbeats 4000000 in
theorem lw_walk (l : Launch) (hl9 : l.stackTraces = false) (b : Addr) (xs : List Int32) : MetFree l x (headSpec (Jvm.Cond.code x code maxLocals ret :: tables_1) room_1) (lw_P b xs) (fun _ _ _ _ _ => True) lw_Q := by
  refine MetFree.of_bodyS (code := code) (maxLocals := maxLocals) (ret := ret) (by decide) ?_ ?_
  · intro args s m h hn
    obtain ⟨meth, c, h1, h2, h3, h4, h5, h6, -, -⟩ := Cond.code_spec hn (atoms_spec (ws := Jvm.Cond.code x code maxLocals ret :: tables_1) h _ List.mem_cons_self)
    exact ⟨meth, c, h1, h2, h3, h4, h5, h6⟩
  · intro p e s m args below meth c s₁ B hml0 hP _
    obtain ⟨rfl, hx, hbd, hgv⟩ := hP
    obtain ⟨scr, harrAt, hlist, hof, hsmall⟩ := hx
    obtain ⟨hcb, hkn, -, -⟩ := State.arrayAt?_spec harrAt
    have hown : s.vm.findClass R_law = some m.cls := findClass_of_methodNamed B.named
    have hts0 : ∀ c ∈ (Jvm.Cond.code x code maxLocals ret :: tables_1), c.before #[Value.ref b] s = true := atoms_spec (ws := Jvm.Cond.code x code maxLocals ret :: tables_1) B.pre
    have hts : ∀ w ∈ lw_tbl, w.before #[Value.ref b] s = true := k2_hts_sels lw_privs (fun w hw => hts0 w (List.mem_cons_of_mem _ hw)) lw_privs_ok
    have hml : c.maxLocals = 7 := B.maxLocals_eq (hts0 _ List.mem_cons_self)
    have X₀ : Stand p l e room_1 s m #[Value.ref b] below meth c s₁ [] 0 0 := Stand.of_body B
    have hh0 : s₁.heap = s.heap := by rw [B.state]; rfl
    have hsz : scr.slots.size = xs.length := by rw [← Array.length_toList, hlist, List.length_map]
    have hval : ∀ j : Nat, j < xs.length → scr.slots[j]? = some (.int (xs.getD j 0)) := fun j hj => by
      rw [← Array.getElem?_toList, hlist]
      simp [hj]
    have hbl : b < s.heap.size := (Array.getElem?_eq_some_iff.mp hcb).1
    have hX : va_X b xs.length (fun j => xs.getD j 0) s s.heap := ⟨scr, hcb, hof, hkn, hsz, hval⟩
    have K : W p l e room_1 s m #[Value.ref b] below meth c s₁.heap [] 0 0 (lw_Z below #[Value.ref b] s) (entryFrame m ([Value.ref b] : List Value).toArray 7) := by
      rw [hh0]
      exact whole_start l hl9 hbd ⟨B.exec, B.bytes, B.returns, hml, hown, hts, hX, hbl, B.notSynchronized, hgv⟩
    obtain ⟨t, a1, o, b1, b2, b3⟩ := K s₁ rfl X₀
    exact ⟨t, o, a1, b1, b2, b3⟩
theorem lw_pre_spec {args : Array Value} {s : State} (h : (Jvm.Cond.and given_1 narrow_1).before args s = true) (hr : rest_1_c.before args s = true) : ∃ (b : Addr) (xs : List Int32), lw_P b xs args s := by
  have hs := flat_of_before _ h
  have hq := flat_of_before _ hr
  have hc : (Cond.count 1).before args s = true := hs _ (by decide +kernel)
  have harr : (Cond.arrayOf (.arg 0) .int).before args s = true := hs _ (by decide +kernel)
  have hle : (Cond.le (.length (.arg 0)) (.int 3072)).before args s = true := hs _ (by decide +kernel)
  have hlen : (Cond.isInt (.length (.arg 0))).before args s = true := hq _ (by decide +kernel)
  have hall : (Cond.all (.arg 0) (.isInt (.elem (.arg 0) (.index 0)))).before args s = true := hq _ (by decide +kernel)
  obtain ⟨b, xs, hb, hx⟩ := State.ints_of_pre rfl harr hlen hall
  have hsm : xs.length < 2 ^ 31 := hx.choose_spec.2.2.2
  have hev : (Term.length (.arg 0)).eval args s none [] s = some (.int xs.length.toInt32) := hx.length_eval hb
  have hv := Cond.le_ints hev (show (Term.int 3072).eval args s none [] s = some (.int 3072) from rfl)
  have hd : xs.length.toInt32 ≤ 3072 := by
    simpa [Cond.before, Cond.holds, hv] using hle
  have hN : xs.length ≤ 3072 := (Int32.ofNat_le_ofNat hsm (by decide)).mp (show Int32.ofNat xs.length ≤ Int32.ofNat 3072 from hd)
  exact ⟨b, xs, Cond.one_arg hc (show args[0]? = some (.ref b) from hb), hx, hN, h⟩
theorem lw_comes (l : Launch) (hl9 : l.stackTraces = false) : Comes l x (Jvm.Cond.code x code maxLocals ret :: tables_1) room_1 (fun tb e args s => Calls_1 tb e args s ∧ rest_1 tb e args s ∧ Pre_1 tb e args s)
    (fun _ _ args s o t => lw_Q args s o t) := by
  intro p e ha hc hk s m args below hf hfit hheap happ hpre
  obtain ⟨b, xs, hP⟩ := lw_pre_spec hpre.2.2 hpre.2.1
  obtain ⟨k, o, h1, h2, h3, hQ⟩ := lw_walk l hl9 b xs p e ha hc hk s m args below hf ((Spec.applies_iff_loose hf).mp happ).1 hP trivial
  exact ⟨k, o, h1, h2, h3, hQ⟩
theorem lw_frame {s t : State} {o : Outcome} {args : Array Value} (h : Framed s o t [] 601024 7293033) :
    Framed s o t (fieldLocs frame_1_writes args s ++ arrayLocs frame_1_arrays args s ++ staticLocs frame_1_statics s) 601024 7293033 := h
theorem lw_limb (L : Cond) (hL : ∀ (args : Array Value) (s t : State), L.after args s (.returned (some (.int 1))) t = true) :
    ArmFor flags0 classFile x code maxLocals ret World_1 tables_1 room_1 Calls_1 rest_1 Pre_1
      (fun tb e a s o t => postC L tb e a s o t ∧ Framed s o t (fieldLocs frame_1_writes a s ++ arrayLocs frame_1_arrays a s ++ staticLocs frame_1_statics s) 601024 7293033) := by
  intro l hfl _ _ p e ha hc hk s m args below hf hfit hheap happ hpre
  obtain ⟨k, o, h1, h2, h3, rfl, hF⟩ := lw_comes l (by unfold Launch.stackTraces; rw [hfl]; decide +kernel) p e ha hc hk s m args below hf hfit hheap happ hpre
  exact ⟨k, _, h1, h2, h3, hL args s _, lw_frame hF⟩
theorem i_vc : Claimed_1_1 ∧ Claimed_1_2 := ⟨lw_limb limb_1_1 (fun args s t => by simp [limb_1_1, Cond.after, Cond.holds, Cond.value]), lw_limb limb_1_2 (fun args s t => Cond.after_iff.mpr (by
  first | (rw [show limb_1_2 = Cond.eq .result (.int 1) from rfl, Cond.eq_ints (x := 1) (y := 1) rfl rfl]; simp; done) | (simp [limb_1_2, Cond.value, Term.eval]; done)))⟩
