/-! THE CLAIM OUT OF ONE WALK OF THE LAW'S BODY. Your part is whole_start (and what it stands on); all else here is the same for every law, but numbers. -/
def R_law : String := "ClueRoomLaw"
def lw_P (b : Addr) (xs : List Int32) (args : Array Value) (s : State) : Prop := args = #[.ref b] ∧ s.IntsAt b xs ∧ xs.length ≤ 3072 ∧ (Jvm.Cond.and given_1 narrow_1).before args s = true
def lw_Q (_ : Array Value) (s : State) (o : Outcome) (t : State) : Prop := o = .returned (some (.int 1)) ∧ Framed s o t [] 601024 7293033
def lw_Z (below : List Frame) (a : Array Value) (s : State) : State → Prop := fun t => ∃ o, t.status = .running ∧ Ended t below o ∧ lw_Q a s o t
/-- the law's own end, with 1 on the stack, nothing written that was there before, its room as the claim has it -/
theorem lw_ret {p : Program} {l : Launch} {e : Jvm.Env} {s : State} {m : MethodId} {below : List Frame} {meth : Method} {c : Code} {b : Nat} (hx : p.tables.exec = Jvm.exec) (hb : c.code = code) (hr : meth.sig.returnType = ret) (hlocks : meth.locks = false) {pc : Nat} {H : Heap} {ls : Array Slot} (hdg : decode code pc = .ok (.ireturn, 1)) : W p l e room_1 s m #[Value.ref b] below meth c H [] 601024 7293033 (lw_Z below #[Value.ref b] s) (F0 m pc ls [.int 1]) := by
  intro T hT X
  obtain ⟨fs, hret, hrun, hended, hW, hframe⟩ := X.leave (v := some (.int 1)) (hlocks := hlocks) (fun h => by rw [hr] at h; cases h)
  have hmeth' : T.vm.method? m = some meth := X.method'
  refine ⟨T.setFrames fs, ?_, .returned (some (.int 1)), hrun, hended, rfl, ⟨_, rfl⟩, hW, hframe⟩
  jvm_step X.here [X.here.top, hx, hb, hdg, hmeth', hr, ret, narrow_b1]
  (try refine ⟨rfl, ?_⟩); (try refine ⟨rfl, ?_⟩)
  first | (intro acts; rw [hret _ acts rfl rfl rfl]) | rw [hret _ _ rfl rfl rfl]
  exact Steps.refl _
/-- what holds at the law's entry: the machine, the code, the tables' words (any of lw_tbl by 'hts w (by decide +kernel)'), the script of L ints xs at the cell b, what the Statement gives of the start (any of its parts by flat_of_before) -/
def lw_At (p : Program) (s : State) (m : MethodId) (meth : Method) (c : Code) (b L : Nat) (xs : Nat → Int32) : Prop :=
  p.tables.exec = Jvm.exec ∧ c.code = code ∧ meth.sig.returnType = ret ∧ c.maxLocals = 7 ∧ s.vm.findClass R_law = some m.cls ∧ (∀ w ∈ lw_tbl, w.before #[Value.ref b] s = true) ∧ va_X b L xs s s.heap ∧ b < s.heap.size ∧ meth.locks = false ∧ (Jvm.Cond.and given_1 narrow_1).before #[Value.ref b] s = true
/-- less room -/
theorem stand_less {p : Program} {l : Launch} {e : Jvm.Env} {R R' : Room} {s : State} {m : MethodId} {args : Array Value} {below : List Frame} {meth : Method} {c : Code} {T : State} {locs : List Loc} {cells slots : Nat} (X : Stand p l e R s m args below meth c T locs cells slots) (hf : R'.frames ≤ R.frames) (hl : R'.locals ≤ R.locals) (hc : R'.cells ≤ R.cells) (hs : R'.slots ≤ R.slots) : Stand p l e R' s m args below meth c T locs cells slots := by
  refine ⟨X.admits, X.cas, X.clock, X.frames, ?_, X.hears, X.method, X.code, X.here, X.tail, X.warmed, X.limits, X.bytes, X.same⟩
  have h := X.room
  simp only [State.hasRoom, Bool.and_eq_true, decide_eq_true_eq] at h ⊢
  obtain ⟨⟨⟨⟨h1, h2, h3, h4, h5, h6⟩, h7⟩, h8⟩, h9⟩ := h
  exact ⟨⟨⟨⟨by omega, by omega, by omega, by omega, by omega, h6⟩, by omega⟩, by omega⟩, h9⟩
theorem rm_f : (rmo 1312 601024 7293033).frames ≤ room_1.frames := Nat.le_of_ble_eq_true rfl
theorem rm_l : (rmo 1312 601024 7293033).locals ≤ room_1.locals := Nat.le_of_ble_eq_true rfl
theorem rm_c : (rmo 1312 601024 7293033).cells ≤ room_1.cells := Nat.le_of_ble_eq_true rfl
theorem rm_s : (rmo 1312 601024 7293033).slots ≤ room_1.slots := Nat.le_of_ble_eq_true rfl
theorem lw_one {s : State} {o : Outcome} {t : State} {r : Option Value} (o1 : o = .returned r) (o2 : r = some (xi 1)) : o = .returned (some (.int 1)) := by
  rw [o1, o2]
  exact congrArg (fun v => Outcome.returned (some (Value.int v))) (by decide)
set_option maxHeartbeats 1000000 in
/-- the law, from its entry, for every script of at most 3072 ints -/
theorem whole_start {p : Program} {e : Jvm.Env} {s : State} {m : MethodId} {below : List Frame} {meth : Method} {c : Code} (l : Launch) (hl9 : l.stackTraces = false) {b L : Nat} {xs : Nat → Int32} (hL : L ≤ 3072) (C0 : lw_At p s m meth c b L xs) : W p l e room_1 s m #[Value.ref b] below meth c s.heap [] 0 0 (lw_Z below #[Value.ref b] s) (entryFrame m ([Value.ref b] : List Value).toArray 7) := by
  obtain ⟨hx, hb, hr, hml, hown, hts, hX, hbl, hlocks, hgv⟩ := id C0
  have hT : ∀ w ∈ xTs, w.before #[Value.ref b] s = true := fun w hw => hts w (List.mem_filter.mp hw).1
  have hNW : xNW s := fun w hw => va_tabs (nest_tab w (List.mem_filter.mp hw).2) rfl (hts w (List.mem_filter.mp hw).1)
  obtain ⟨G, eG, e3, e4, hK, hSta⟩ := st_G hts (flat_of_before _ hgv) hX hbl hL
  have hCx : xCx G mL_law p s m #[Value.ref b] meth c := ⟨hx, hb, hr, hml, hown, hT, hlocks, (fun h => by cases h), hK, hNW, hSta, Nat.le_of_eq eG⟩
  have hle := lv_entry ([.ref b]) (n := 7) (Nat.le_of_ble_eq_true rfl)
  rw [lg_entry_eq]
  generalize (lg_sl ([.ref b]) ++ List.replicate (7 - (lg_sl ([.ref b])).length) Slot.unset).toArray = ls at hle ⊢
  have hl7 : lv_has ls 7 (prs 0 [some (.ref (G.2.2.2 3)), none, none, none, none, none, none]) := by rw [e3]; exact hle
  have main := law_init (G := G) (l := l) hl9 (by rw [e4]; exact hL) p e s m #[Value.ref b] below meth c hCx trivial s.heap [] 0 0 ls ⟨Nat.le_of_eq eG, fun _ => eG.symm⟩ (fun k L' h => by cases h) va_S.rf (Nat.le_of_eq (Nat.zero_add _)) (Nat.le_of_eq (Nat.zero_add _)) hl7
  intro T hT9 X
  obtain ⟨t, a1, o, b1, b2, ⟨r, lay', μ', o1, o2, _⟩, L9, ⟨w1, w2, w3⟩, w4⟩ := main T hT9 (stand_less X rm_f rm_l rm_c rm_s)
  refine ⟨t, a1, o, b1, b2, lw_one (s := s) (t := t) o1 o2, w1, w2, ?_⟩
  obtain ⟨y1, y2, y3, y4, y5, y6⟩ := w3
  refine ⟨y1, y2, y3, y4, y5, fun a c9 h9 => ?_⟩
  obtain ⟨c8, j1, j2, j3, j4⟩ := y6 a c9 h9
  refine ⟨c8, j1, j2, j3, fun i _ => j4 i (fun hm => ?_)⟩
  have hq : G.1 ≤ _ := w4 _ hm
  rw [eG] at hq
  exact absurd (Array.getElem?_eq_some_iff.mp h9).1 (Nat.not_lt.mpr hq)
