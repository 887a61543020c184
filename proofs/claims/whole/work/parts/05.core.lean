/-! THE PLAIN MACHINE over the kit's rows: a world of numbered cells whose contents are whole numbers, one judgement RR for a frame, one CC for a method -/
section CoreA
abbrev xG : Type := Nat × va_G × (Nat → ClassId) × (Nat → Nat)
abbrev xLay : Type := (Nat × Nat) ⊕ (Nat × List (Option (Option Nat)))
abbrev xMem : Type := Nat → Int → Int
abbrev xLL : Type := List (Option Value)
abbrev xMT : Type := MethodName × ByteArray × Nat × Option FieldType × Bool
def xi (x : Int) : Value := .int (Int32.ofInt x)
def xl (x : Int) : Value := .long (Int64.ofInt x)
def xr (G : xG) (k : Nat) : Value := .ref (G.1 + k)
abbrev iR (x : Int) : Prop := -2147483648 ≤ x ∧ x < 2147483648
abbrev lR (x : Int) : Prop := -9223372036854775808 ≤ x ∧ x < 9223372036854775808
def xA (G : xG) : Nat → Prop := fun q => G.1 ≤ q
def fv (G : xG) (f : Int → Int) (i : Nat) : Option (Option Nat) → Value
  | none => xi (f i)
  | some none => .null
  | some (some r) => xr G r
def flds (G : xG) (f : Int → Int) : Nat → List (Option (Option Nat)) → List Value
  | _, [] => []
  | i, x :: xs => fv G f i x :: flds G f (i + 1) xs
def rd (G : xG) (f : Int → Int) : xLay → va_E
  | .inl (t, n) => .inl (G.2.2.1 t, n, if t = 3 then .inr (.inl (fun j => Int64.ofInt (f j))) else .inl (fun j => Int32.ofInt (f j)))
  | .inr (c, fs) => .inr (c, flds G f 0 fs)
def WP (G : xG) (lay : List xLay) (μ : xMem) (H : Heap) : Prop := ∀ (k : Nat) (L : xLay), lay[k]? = some L → va_at G.2.1 vwCl (G.1 + k, rd G (μ k) L) H
def xty (G : xG) : List (ClassId × FieldType) := [(G.2.2.1 0, .int), (G.2.2.1 1, .byte), (G.2.2.1 2, .boolean), (G.2.2.1 3, .long)]
def xTs : List Cond := lw_tbl.filter goodWord
def xnest : Cond → Bool
  | .fieldLinkNest .. => true
  | .methodLinkNest .. => true
  | .castable .. => true
  | .declares .. => true
  | _ => false
def xTn : List Cond := lw_tbl.filter xnest
theorem xin (i : Nat) {w : Cond} (h : lw_tbl[i]? = some w) (g : goodWord w = true) : w ∈ xTs := List.mem_filter.mpr ⟨List.mem_of_getElem? h, g⟩
theorem xinN (i : Nat) {w : Cond} (h : lw_tbl[i]? = some w) (g : xnest w = true) : w ∈ xTn := List.mem_filter.mpr ⟨List.mem_of_getElem? h, g⟩
theorem xTs_good : ∀ w ∈ xTs, (w.onTables && w.keeps) = true ∨ ∃ ty, w = .arrayClass ty := fun w h => good_of_word (List.mem_filter.mp h).2
def xNW (U : State) : Prop := ∀ w ∈ xTn, va_Nw w U
theorem xNW.warm {s U : State} (hW : s.WarmedH U.vm) (h : xNW s) : xNW U := fun w hw => by
  have hn := (List.mem_filter.mp hw).2
  have h1 := h w hw
  cases w <;> first | exact va_Nw.warmF hW h1 | exact va_Nw.warmM hW h1 | exact va_Nw.warmC hW h1 | exact va_tabs rfl (rfl : (s.setVm U.vm).vm = U.vm) (by rw [Cond.declares_setVm hW.alike]; exact h1) | (simp [xnest] at hn)
def xPS (j : Nat) : Int := ([30, 24, 23, 25, 31, 21, 22, 26, 20, 27] : List Int).getD j 0
def xSym : String := " ()12345678=ABCDEFGHabcefhiklmst"
def xSymB : List Int32 := [32, 40, 41, 49, 50, 51, 52, 53, 54, 55, 56, 61, 65, 66, 67, 68, 69, 70, 71, 72, 97, 98, 99, 101, 102, 104, 105, 107, 108, 109, 115, 116]
/-- the law's script, kept in G: its address 3, its length 4, its words from 5 on -/
def xScr (G : xG) (j : Nat) : Int := (Int32.ofNat (G.2.2.2 (5 + j))).toInt
def xSta (G : xG) (U : State) (H : Heap) : Prop :=
  va_Z "ClueRoom" "PLAY_SYMBOLS" "[I" (.ref (G.2.2.2 0)) (xA G) U H ∧ va_T .int (G.2.2.2 0) 10 (fun j => xi (xPS j)) (xA G) U H ∧ vk_R "ClueRoom$Reader" 82 xSym (G.2.2.2 1) U ∧
  vk_S 1 [32] [xSymB] (fun _ => G.2.2.2 1) (fun _ => G.2.2.2 2) (xA G) U H ∧ va_Z "java/lang/String" "COMPACT_STRINGS" "Z" (.int 1) (xA G) U H ∧
  vx_Zq Bundle.tN "UNASSIGNED_STACK" Bundle.steD (xA G) U H ∧ vx_Zq Bundle.tN "SUPPRESSED_SENTINEL" Bundle.listD (xA G) U H ∧ va_Zq "jdk/internal/util/Preconditions" "SIOOBE_FORMATTER" "Ljava/util/function/BiFunction;" (xA G) U H ∧ va_T .int (G.2.2.2 3) (G.2.2.2 4) (fun j => xi (xScr G j)) (xA G) U H
theorem xSta.warm {G : xG} {s U : State} {H : Heap} (hW : s.WarmedH U.vm) (h : xSta G s H) : xSta G U H := by
  obtain ⟨h1, h2, h3, h4, h5, h6, h7, h8, h9⟩ := h
  exact ⟨va_Z.moved hW.alike h1, va_T.moved hW.alike h2, vk_R.warm hW h3, vk_S.moved hW.alike h4, va_Z.moved hW.alike h5, vx_Zq.moved hW.alike h6, vx_Zq.moved hW.alike h7, va_Zq.moved hW.alike h8, va_T.moved hW.alike h9⟩
theorem xSta.kept {G : xG} {U : State} {H H1 : Heap} (h : xSta G U H) (hq : ∀ a : Nat, a < H.size → ¬ xA G a → H1[a]? = H[a]?) : xSta G U H1 := by
  obtain ⟨h1, h2, h3, h4, h5, h6, h7, h8, h9⟩ := h
  exact ⟨h1.kept hq, h2.kept hq, h3, h4.kept hq, h5.kept hq, h6.kept hq, h7.kept hq, h8.kept hq, h9.kept hq⟩
def szs (z : Bool) (a n : Nat) : Prop := a ≤ n ∧ (z = true → n = a)
def WD (G : xG) (z : Bool) (lay : List xLay) (μ : xMem) (U : State) : Prop :=
  szs z (G.1 + lay.length) U.heap.size ∧ WP G lay μ U.heap ∧ va_K G.2.1 vwCl (xty G) U ∧ xNW U ∧ xSta G U U.heap ∧ G.1 ≤ U.heap.size
def QcR (G : xG) (z : Bool) (Q : Option Value → List xLay → xMem → Prop) : Array Value → State → Outcome → State → Prop := fun _ st oc t =>
  ∃ (r : Option Value) (lay : List xLay) (μ : xMem), oc = .returned r ∧ Q r lay μ ∧ WD G z lay μ t ∧ va_F (xA G) st t
def xCx (G : xG) (mt : xMT) (p : Program) (s : State) (m : MethodId) (args : Array Value) (meth : Method) (c : Code) : Prop :=
  p.tables.exec = Jvm.exec ∧ c.code = mt.2.1 ∧ meth.sig.returnType = mt.2.2.2.1 ∧ c.maxLocals = mt.2.2.1 ∧ s.vm.findClass mt.1.cls = some m.cls ∧ (∀ w ∈ xTs, w.before args s = true) ∧ meth.locks = false ∧
  (mt.2.2.2.2 = true → meth.name = "<init>") ∧ va_K G.2.1 vwCl (xty G) s ∧ xNW s ∧ xSta G s s.heap ∧ G.1 ≤ s.heap.size
def rmo (d mc ms : Nat) : Room := { frames := d, cells := mc, slots := ms, locals := 64 * d }
def prs : Nat → xLL → List (Nat × Value)
  | _, [] => []
  | i, none :: r => prs (i + 1) r
  | i, some v :: r => (i, v) :: prs (i + 1) r
theorem mem_prs {q : Nat × Value} : ∀ (ll : xLL) (k : Nat), q ∈ prs k ll ↔ ∃ i : Nat, q.1 = k + i ∧ ll[i]? = some (some q.2)
  | [], k => by simp [prs]
  | none :: r, k => by
    rw [prs, mem_prs r (k + 1)]
    constructor
    · rintro ⟨i, h1, h2⟩
      exact ⟨i + 1, by omega, by simpa using h2⟩
    · rintro ⟨i, h1, h2⟩
      cases i with
      | zero => simp at h2
      | succ i => exact ⟨i, by omega, by simpa using h2⟩
  | some v :: r, k => by
    rw [prs, List.mem_cons, mem_prs r (k + 1)]
    constructor
    · rintro (h | ⟨i, h1, h2⟩)
      · exact ⟨0, by rw [h]; rfl, by rw [h]; rfl⟩
      · exact ⟨i + 1, by omega, by simpa using h2⟩
    · rintro ⟨i, h1, h2⟩
      cases i with
      | zero =>
        refine Or.inl ?_
        simp at h2
        exact Prod.ext (by simpa using h1) h2.symm
      | succ i => exact Or.inr ⟨i, by omega, by simpa using h2⟩
/-- the judgement of a frame: from here the machine comes to the method's end, with Q of its answer and the world behind -/
def RR (G : xG) (l : Launch) (d mc ms : Nat) (z : Bool) (mt : xMT) (Q : Option Value → List xLay → xMem → Prop) (pc : Nat) (ll : xLL) (st : List Value) (lay : List xLay) (μ : xMem) (bc bs : Nat) : Prop :=
  ∀ (p : Program) (e : Env) (s : State) (m : MethodId) (args : Array Value) (below : List Frame) (meth : Method) (c : Code), xCx G mt p s m args meth c →
  ∀ (H : Heap) (locs : List Loc) (cells slots : Nat) (ls : Array Slot), szs z (G.1 + lay.length) H.size → WP G lay μ H → va_S (xA G) s.heap H locs → cells + bc ≤ mc → slots + bs ≤ ms → lv_has ls mt.2.2.1 (prs 0 ll) →
  W p l e (rmo d mc ms) s m args below meth c H locs cells slots (MQ below (QcR G z Q) args s mc ms (xA G)) (F0 m pc ls st)
/-- the judgement of a method -/
def CC (G : xG) (l : Launch) (d mc ms : Nat) (z : Bool) (mt : xMT) (args : List Value) (lay : List xLay) (μ : xMem) (Q : Option Value → List xLay → xMem → Prop) : Prop :=
  Met l mt.1 (.code mt.1 mt.2.1 mt.2.2.1 mt.2.2.2.1 :: xTs) (rmo d mc ms) (va_Pc args (WD G z lay μ)) (QcR G z Q) mc ms (xA G)
end CoreA
section CoreB
variable {G : xG} {l : Launch} {d mc ms pc bc bs : Nat} {z : Bool} {mt : xMT} {Q : Option Value → List xLay → xMem → Prop} {ll : xLL} {st : List Value} {lay : List xLay} {μ : xMem}
theorem WD.blind {args : List Value} : FrameBlind (va_Pc args (WD G z lay μ)) := by
  intro a U g mk h
  obtain ⟨h0, h1, h2, h3, h4, h5, h6⟩ := h
  exact ⟨h0, h1, h2, va_K.moved (u := U) (U := U.calling g mk a) (Vm.Alike.refl U.vm) h3, h4.warm (U := U.calling g mk a) (State.WarmedH.refl U), h5.warm (U := U.calling g mk a) (State.WarmedH.refl U), h6⟩
/-- the world at a state that is as warm, with the heap that stands now -/
theorem WD.of {p : Program} {s t : State} {m : MethodId} {args : Array Value} {meth : Method} {c : Code} {H : Heap} {locs : List Loc} (hC : xCx G mt p s m args meth c) (hz : szs z (G.1 + lay.length) H.size) (hP : WP G lay μ H) (hS : va_S (xA G) s.heap H locs) (ht : t.heap = H) (hW : s.WarmedH t.vm) : WD G z lay μ t := by
  obtain ⟨-, -, -, -, -, -, -, -, hK, hN, hT, hB⟩ := hC
  subst ht
  exact ⟨hz, hP, va_K.moved hW.alike hK, hN.warm hW, (hT.warm hW).kept hS.2.1, Nat.le_trans hB hS.1⟩
theorem CC.ofRR {args : List Value} (hy : plainName mt.1.cls = true) (hlen : (lg_sl args).length ≤ mt.2.2.1) {ll : xLL} (hll : prs 0 ll = lv_args 0 args) (hi : (mt.2.2.2.2 = true → mt.1.name = "<init>"))
    (h : RR G l d mc ms z mt Q 0 ll [] lay μ mc ms) : CC G l d mc ms z mt args lay μ Q := by
  refine Met.ofW (cc := mt.2.1) (maxL := mt.2.2.1) (ret := mt.2.2.2.1) hy rfl ?_
  intro p e s m args' below meth c s₁ B hml hv
  obtain ⟨rfl, h1, h2, h3, h4, h5, h6⟩ := hv
  have hts := atoms_spec (ws := .code mt.1 mt.2.1 mt.2.2.1 mt.2.2.2.1 :: xTs) B.pre
  rw [lg_entry_eq]
  refine h p e s m _ below meth c ⟨B.exec, B.bytes, B.returns, hml, findClass_of_methodNamed B.named, fun w hw => hts w (List.mem_cons_of_mem _ hw), B.notSynchronized, fun hq => (name_of_methodNamed B.named B.method).1.trans (hi hq), h3, h4, h5, h6⟩ s.heap [] 0 0 _ h1 h2 va_S.rf (by omega) (by omega) ?_
  rw [hll]
  exact lv_entry args hlen
theorem CC.mono {args : List Value} {Q' : Option Value → List xLay → xMem → Prop} (h : CC G l d mc ms z mt args lay μ Q) (hQ : ∀ r lay' μ', Q r lay' μ' → Q' r lay' μ') : CC G l d mc ms z mt args lay μ Q' := by
  intro p e ha hc hk s m args' below hf happ hP hK
  obtain ⟨t, o, a1, a2, a3, ⟨r, lay', μ', b1, b2, b3, b4⟩, a5⟩ := h p e ha hc hk s m args' below hf happ hP hK
  exact ⟨t, o, a1, a2, a3, ⟨r, lay', μ', b1, hQ _ _ _ b2, b3, b4⟩, a5⟩
end CoreB
