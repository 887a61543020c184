/-! numbers -/
section RulesN
def jand (x y : Int) : Int := (Int32.ofInt x &&& Int32.ofInt y).toInt
def jor (x y : Int) : Int := (Int32.ofInt x ||| Int32.ofInt y).toInt
def jshl (x y : Int) : Int := (Int32.ofInt x <<< (Int32.ofInt y &&& 31)).toInt
def jshr (x y : Int) : Int := (Int32.ofInt x >>> (Int32.ofInt y &&& 31)).toInt
def jushr (x y : Int) : Int := ((Int32.ofInt x).toUInt32 >>> ((Int32.ofInt y).toUInt32 &&& Int32.toUInt32 31)).toInt32.toInt
def jlor (x y : Int) : Int := (Int64.ofInt x ||| Int64.ofInt y).toInt
def jlshl (x y : Int) : Int := (Int64.ofInt x <<< ((Int32.ofInt y).toInt64 &&& 63)).toInt
def jlushr (x y : Int) : Int := ((Int64.ofInt x).toUInt64 >>> ((Int32.ofInt y).toInt64.toUInt64 &&& Int64.toUInt64 63)).toInt64.toInt
def j8 (x : Int) : Int := (x + 128) % 256 - 128
def jcmp (x y : Int) : Int := if x < y then -1 else if x = y then 0 else 1
theorem x_ti {x : Int} (h : iR x) : (Int32.ofInt x).toInt = x := Int32.toInt_ofInt_of_le (by omega) (by omega)
theorem x_tl {x : Int} (h : lR x) : (Int64.ofInt x).toInt = x := Int64.toInt_ofInt_of_le (by omega) (by omega)
theorem x_b8 {n : Int} (h : -128 ≤ n ∧ n < 128) : (Int8.ofInt n).toInt32 = Int32.ofInt n := by
  apply Int32.toInt_inj.mp
  rw [x_ti (by omega), Int8.toInt_toInt32]
  exact Int8.toInt_ofInt_of_le (by omega) (by omega)
theorem x_b16 {n : Int} (h : -32768 ≤ n ∧ n < 32768) : (Int16.ofInt n).toInt32 = Int32.ofInt n := by
  apply Int32.toInt_inj.mp
  rw [x_ti (by omega), Int16.toInt_toInt32]
  exact Int16.toInt_ofInt_of_le (by omega) (by omega)
theorem x_eq {x y : Int} (hx : iR x) (hy : iR y) : Int32.ofInt x = Int32.ofInt y ↔ x = y := ⟨fun h => by rw [← x_ti hx, ← x_ti hy, h], fun h => by rw [h]⟩
theorem x_ne {x y : Int} (hx : iR x) (hy : iR y) : ¬ Int32.ofInt x = Int32.ofInt y ↔ x ≠ y := by rw [x_eq hx hy]
theorem x_lt {x y : Int} (hx : iR x) (hy : iR y) : Int32.ofInt x < Int32.ofInt y ↔ x < y := by rw [Int32.lt_iff_toInt_lt, x_ti hx, x_ti hy]
theorem x_le {x y : Int} (hx : iR x) (hy : iR y) : Int32.ofInt x ≤ Int32.ofInt y ↔ x ≤ y := by rw [Int32.le_iff_toInt_le, x_ti hx, x_ti hy]
theorem x_gt {x y : Int} (hx : iR x) (hy : iR y) : Int32.ofInt y < Int32.ofInt x ↔ y < x := x_lt hy hx
theorem x_ge {x y : Int} (hx : iR x) (hy : iR y) : Int32.ofInt y ≤ Int32.ofInt x ↔ y ≤ x := x_le hy hx
theorem x_eq0 {x : Int} (hx : iR x) : Int32.ofInt x = 0 ↔ x = 0 := x_eq (y := 0) hx (by omega)
theorem x_nz0 {x : Int} (hx : iR x) : ¬ Int32.ofInt x = 0 ↔ x ≠ 0 := x_ne (y := 0) hx (by omega)
theorem x_lt0 {x : Int} (hx : iR x) : Int32.ofInt x < 0 ↔ x < 0 := x_lt (y := 0) hx (by omega)
theorem x_ge0 {x : Int} (hx : iR x) : (0 : Int32) ≤ Int32.ofInt x ↔ 0 ≤ x := x_ge (y := 0) hx (by omega)
theorem x_gt0 {x : Int} (hx : iR x) : (0 : Int32) < Int32.ofInt x ↔ 0 < x := x_gt (y := 0) hx (by omega)
theorem x_le0 {x : Int} (hx : iR x) : Int32.ofInt x ≤ 0 ↔ x ≤ 0 := x_le (y := 0) hx (by omega)
theorem x_ne0 {y : Int} (hy : 0 < y ∧ y < 2147483648) : ¬ Int32.ofInt y = 0 := fun h => by have := (x_eq0 (by omega)).mp h; omega
theorem x_div {x y : Int} (hx : 0 ≤ x ∧ x < 2147483648) (hy : 0 < y ∧ y < 2147483648) : Int32.ofInt x / Int32.ofInt y = Int32.ofInt (x / y) := by
  have h1 : 0 ≤ x / y := Int.ediv_nonneg hx.1 (by omega)
  have h2 : x / y ≤ x := Int.ediv_le_self _ hx.1
  apply Int32.toInt_inj.mp
  rw [Int32.toInt_div, x_ti (by omega), x_ti (by omega), x_ti (by omega), Int.tdiv_eq_ediv_of_nonneg hx.1]
  exact Int.bmod_eq_of_le (by omega) (by omega)
theorem x_rem {x y : Int} (hx : 0 ≤ x ∧ x < 2147483648) (hy : 0 < y ∧ y < 2147483648) : Int32.ofInt x - Int32.ofInt x / Int32.ofInt y * Int32.ofInt y = Int32.ofInt (x % y) := by
  rw [x_div hx hy, ← Int32.ofInt_mul, ← Int32.ofInt_sub]
  congr 1
  have := Int.emod_add_mul_ediv x y
  have h3 : x / y * y = y * (x / y) := Int.mul_comm _ _
  omega
theorem x_i2l {x : Int} (h : iR x) : (Int32.ofInt x).toInt64 = Int64.ofInt x := by
  apply Int64.toInt_inj.mp
  rw [Int32.toInt_toInt64, x_ti h, x_tl (by omega)]
theorem x_l2i (x : Int) : (Int64.ofInt x).toInt32 = Int32.ofInt x := Int64.toInt32_ofInt
theorem x_i2b (x : Int) : (Int32.ofInt x).toInt8.toInt32 = Int32.ofInt (j8 x) := by
  apply Int32.toInt_inj.mp
  unfold j8
  rw [Int8.toInt_toInt32, Int32.toInt8_ofInt, x_ti (by omega), Int8.toInt_ofInt, show Int8.size = 256 from rfl, Int.bmod_def]
  split <;> omega
theorem x_lc (n : Fin 2) : Int64.ofNat n.val = Int64.ofInt n.val := by
  match n with
  | 0 => rfl
  | 1 => rfl
def x_chk (ll : xLL) (i : Nat) : Bool := match i with
  | 0 => true
  | j + 1 => match ll[j]? with
    | some (some (.long _)) => false
    | some (some (.double _)) => false
    | _ => true
theorem x_chk_cat {ll : xLL} {i j : Nat} {v : Value} (h : x_chk ll i = true) (hj : ll[j]? = some (some v)) (e : j + 1 = i) : v.category ≠ 2 := by
  subst e
  simp only [x_chk, hj] at h
  cases v <;> simp_all [Value.category]
theorem x_set1 {ll : xLL} {i nL : Nat} {v : Value} {ls' : Array Slot} (hk : x_chk ll i = true) (h : lv_has ls' nL ((i, v) :: (prs 0 ll).filter (fun q => !(q.1 == i) && !(q.1 + 1 == i && q.2.category == 2)))) : lv_has ls' nL (prs 0 (ll.set i (some v))) := by
  refine ⟨h.1, h.2.1, fun q hq => h.2.2 q ?_⟩
  obtain ⟨j, e1, e2⟩ := (mem_prs _ 0).mp hq
  rw [Nat.zero_add] at e1
  rw [List.getElem?_set] at e2
  by_cases hij : i = j
  · rw [if_pos hij] at e2
    split at e2
    · refine List.mem_cons.mpr (Or.inl (Prod.ext ?_ ?_))
      · rw [e1, hij]
      · exact (Option.some.inj (Option.some.inj e2)).symm
    · cases e2
  · rw [if_neg hij] at e2
    refine List.mem_cons.mpr (Or.inr (List.mem_filter.mpr ⟨(mem_prs ll 0).mpr ⟨j, by rw [Nat.zero_add]; exact e1, e2⟩, ?_⟩))
    have hne : q.1 ≠ i := by rw [e1]; exact fun h => hij h.symm
    simp only [Bool.and_eq_true, Bool.not_eq_true', beq_eq_false_iff_ne, ne_eq, Bool.and_eq_false_iff]
    refine ⟨hne, ?_⟩
    by_cases hp : q.1 + 1 = i
    · exact Or.inr (x_chk_cat hk e2 (by rw [← e1]; exact hp))
    · exact Or.inl hp
theorem x_set2 {ll : xLL} {i nL : Nat} {v : Value} {ls' : Array Slot} (hk : x_chk ll i = true) (h : lv_has ls' nL ((i, v) :: (prs 0 ll).filter (fun q => !(q.1 == i) && (!(q.1 == i + 1) && !(q.1 + 1 == i && q.2.category == 2))))) : lv_has ls' nL (prs 0 ((ll.set i (some v)).set (i + 1) none)) := by
  refine ⟨h.1, h.2.1, fun q hq => h.2.2 q ?_⟩
  obtain ⟨j, e1, e2⟩ := (mem_prs _ 0).mp hq
  rw [Nat.zero_add] at e1
  rw [List.getElem?_set] at e2
  by_cases hij1 : i + 1 = j
  · rw [if_pos hij1] at e2
    split at e2 <;> cases e2
  · rw [if_neg hij1, List.getElem?_set] at e2
    by_cases hij : i = j
    · rw [if_pos hij] at e2
      split at e2
      · refine List.mem_cons.mpr (Or.inl (Prod.ext ?_ ?_))
        · rw [e1, hij]
        · exact (Option.some.inj (Option.some.inj e2)).symm
      · cases e2
    · rw [if_neg hij] at e2
      refine List.mem_cons.mpr (Or.inr (List.mem_filter.mpr ⟨(mem_prs ll 0).mpr ⟨j, by rw [Nat.zero_add]; exact e1, e2⟩, ?_⟩))
      have hne : q.1 ≠ i := by rw [e1]; exact fun h => hij h.symm
      have hne1 : q.1 ≠ i + 1 := by rw [e1]; exact fun h => hij1 h.symm
      simp only [Bool.and_eq_true, Bool.not_eq_true', beq_eq_false_iff_ne, ne_eq, Bool.and_eq_false_iff]
      refine ⟨hne, hne1, ?_⟩
      by_cases hp : q.1 + 1 = i
      · exact Or.inr (x_chk_cat hk e2 (by rw [← e1]; exact hp))
      · exact Or.inl hp
theorem x_lcmp {x y : Int} (hx : lR x) (hy : lR y) : xi (jcmp x y) = .int (lg_cmp (Int64.ofInt x) (Int64.ofInt y)) := by
  unfold jcmp lg_cmp xi
  simp only [GT.gt, Int64.lt_iff_toInt_lt, ← Int64.toInt_inj, x_tl hx, x_tl hy]
  rcases Int.lt_trichotomy x y with h | h | h
  · rw [if_pos h, if_neg (by omega), if_neg (by omega)]
    rfl
  · rw [if_neg (by omega), if_pos h, if_neg (by omega), if_pos h]
    rfl
  · rw [if_neg (by omega), if_neg (by omega), if_pos h]
    rfl
theorem x_lh {ls : Array Slot} {n i : Nat} {ll : xLL} {v : Value} (h : lv_has ls n (prs 0 ll)) (hx : ll[i]? = some (some v)) : ls[i]? = some (.val v) := h.2.2 (i, v) ((mem_prs ll 0).mpr ⟨i, (Nat.zero_add _).symm, hx⟩)
def x_sub (a b : xLL) : Bool := match a, b with
  | [], _ => true
  | none :: r, _ :: q => x_sub r q
  | none :: r, [] => x_sub r []
  | some v :: r, some w :: q => decide (v = w) && x_sub r q
  | some _ :: _, _ => false
theorem x_sub_get : ∀ {a b : xLL} {i : Nat} {v : Value}, x_sub a b = true → a[i]? = some (some v) → b[i]? = some (some v)
  | [], _, i, v, _, h => by simp at h
  | none :: r, w :: q, 0, v, _, h => by simp at h
  | none :: r, w :: q, i + 1, v, hs, h => by
    rw [List.getElem?_cons_succ] at h ⊢
    exact x_sub_get (a := r) (b := q) hs h
  | none :: r, [], 0, v, _, h => by simp at h
  | none :: r, [], i + 1, v, hs, h => by
    rw [List.getElem?_cons_succ] at h
    have := x_sub_get (a := r) (b := []) hs h
    simp at this
  | some x :: r, some w :: q, 0, v, hs, h => by
    simp only [x_sub, Bool.and_eq_true, decide_eq_true_eq] at hs
    rw [← hs.1]
    exact h
  | some x :: r, some w :: q, i + 1, v, hs, h => by
    simp only [x_sub, Bool.and_eq_true, decide_eq_true_eq] at hs
    rw [List.getElem?_cons_succ] at h ⊢
    exact x_sub_get (a := r) (b := q) hs.2 h
  | some x :: r, none :: q, i, v, hs, h => by simp [x_sub] at hs
  | some x :: r, [], i, v, hs, h => by simp [x_sub] at hs
theorem x_sub_mem {a b : xLL} (h : x_sub a b = true) {q : Nat × Value} (hq : q ∈ prs 0 a) : q ∈ prs 0 b := by
  obtain ⟨j, e1, e2⟩ := (mem_prs _ 0).mp hq
  exact (mem_prs _ 0).mpr ⟨j, e1, x_sub_get h e2⟩
end RulesN
/-! THE RULES of RR, an instruction a row -/
section RulesA
variable {G : xG} {l : Launch} {d mc ms pc bc bs : Nat} {z : Bool} {mt : xMT} {Q : Option Value → List xLay → xMem → Prop} {ll : xLL} {st : List Value} {lay : List xLay} {μ : xMem}
theorem xr_iconst {n : Int} (hd : decode mt.2.1 pc = .ok (.iconst n, 1)) (k : RR G l d mc ms z mt Q (pc + 1) ll (xi n :: st) lay μ bc bs) : RR G l d mc ms z mt Q pc ll st lay μ bc bs := by
  intro p e s m args below meth c hC H locs cells slots ls hz hP hS h1 h2 hl
  exact lv_iconst hC.1 hC.2.1 hd rfl (k p e s m args below meth c hC H locs cells slots ls hz hP hS h1 h2 hl)
theorem xr_bipush {n : Int} (hd : decode mt.2.1 pc = .ok (.bipush n, 2)) (hn : -128 ≤ n ∧ n < 128) (k : RR G l d mc ms z mt Q (pc + 2) ll (xi n :: st) lay μ bc bs) : RR G l d mc ms z mt Q pc ll st lay μ bc bs := by
  intro p e s m args below meth c hC H locs cells slots ls hz hP hS h1 h2 hl
  exact lv_bipush hC.1 hC.2.1 hd (x_b8 hn) (k p e s m args below meth c hC H locs cells slots ls hz hP hS h1 h2 hl)
theorem xr_sipush {n : Int} (hd : decode mt.2.1 pc = .ok (.sipush n, 3)) (hn : -32768 ≤ n ∧ n < 32768) (k : RR G l d mc ms z mt Q (pc + 3) ll (xi n :: st) lay μ bc bs) : RR G l d mc ms z mt Q pc ll st lay μ bc bs := by
  intro p e s m args below meth c hC H locs cells slots ls hz hP hS h1 h2 hl
  exact lv_sipush hC.1 hC.2.1 hd (x_b16 hn) (k p e s m args below meth c hC H locs cells slots ls hz hP hS h1 h2 hl)
theorem xr_lconst {n : Fin 2} (hd : decode mt.2.1 pc = .ok (.lconst n, 1)) (k : RR G l d mc ms z mt Q (pc + 1) ll (xl n.val :: st) lay μ bc bs) : RR G l d mc ms z mt Q pc ll st lay μ bc bs := by
  intro p e s m args below meth c hC H locs cells slots ls hz hP hS h1 h2 hl
  exact lv_lconst hC.1 hC.2.1 hd (x_lc n) (k p e s m args below meth c hC H locs cells slots ls hz hP hS h1 h2 hl)
theorem xr_ldc {i : Nat} {v : Int} (hd : decode mt.2.1 pc = .ok (.ldc i, 2)) (hw : Cond.constant mt.1.cls i (Int32.ofInt v) ∈ xTs) (k : RR G l d mc ms z mt Q (pc + 2) ll (xi v :: st) lay μ bc bs) : RR G l d mc ms z mt Q pc ll st lay μ bc bs := by
  intro p e s m args below meth c hC H locs cells slots ls hz hP hS h1 h2 hl
  exact lv_ldc hC.1 hC.2.1 hC.2.2.2.2.1 (hC.2.2.2.2.2.1 _ hw) hd (k p e s m args below meth c hC H locs cells slots ls hz hP hS h1 h2 hl)
theorem xr_iload_n {n : Fin 4} {x : Int} (hd : decode mt.2.1 pc = .ok (.iload_n n, 1)) (hx : ll[(n : Nat)]? = some (some (xi x))) (k : RR G l d mc ms z mt Q (pc + 1) ll (xi x :: st) lay μ bc bs) : RR G l d mc ms z mt Q pc ll st lay μ bc bs := by
  intro p e s m args below meth c hC H locs cells slots ls hz hP hS h1 h2 hl
  exact lv_iload_n hC.1 hC.2.1 hd rfl (x_lh hl hx) (k p e s m args below meth c hC H locs cells slots ls hz hP hS h1 h2 hl)
theorem xr_iload {i : Nat} {x : Int} (hd : decode mt.2.1 pc = .ok (.iload i, 2)) (hx : ll[i]? = some (some (xi x))) (k : RR G l d mc ms z mt Q (pc + 2) ll (xi x :: st) lay μ bc bs) : RR G l d mc ms z mt Q pc ll st lay μ bc bs := by
  intro p e s m args below meth c hC H locs cells slots ls hz hP hS h1 h2 hl
  exact lv_iload hC.1 hC.2.1 hd (x_lh hl hx) (k p e s m args below meth c hC H locs cells slots ls hz hP hS h1 h2 hl)
theorem xr_lload_n {n : Fin 4} {x : Int} (hd : decode mt.2.1 pc = .ok (.lload_n n, 1)) (hx : ll[(n : Nat)]? = some (some (xl x))) (k : RR G l d mc ms z mt Q (pc + 1) ll (xl x :: st) lay μ bc bs) : RR G l d mc ms z mt Q pc ll st lay μ bc bs := by
  intro p e s m args below meth c hC H locs cells slots ls hz hP hS h1 h2 hl
  exact lv_lload_n hC.1 hC.2.1 hd rfl (x_lh hl hx) (k p e s m args below meth c hC H locs cells slots ls hz hP hS h1 h2 hl)
theorem xr_lload {i : Nat} {x : Int} (hd : decode mt.2.1 pc = .ok (.lload i, 2)) (hx : ll[i]? = some (some (xl x))) (k : RR G l d mc ms z mt Q (pc + 2) ll (xl x :: st) lay μ bc bs) : RR G l d mc ms z mt Q pc ll st lay μ bc bs := by
  intro p e s m args below meth c hC H locs cells slots ls hz hP hS h1 h2 hl
  exact lv_lload hC.1 hC.2.1 hd (x_lh hl hx) (k p e s m args below meth c hC H locs cells slots ls hz hP hS h1 h2 hl)
theorem xr_aload_n {n : Fin 4} {x : Nat} (hd : decode mt.2.1 pc = .ok (.aload_n n, 1)) (hx : ll[(n : Nat)]? = some (some (xr G x))) (k : RR G l d mc ms z mt Q (pc + 1) ll (xr G x :: st) lay μ bc bs) : RR G l d mc ms z mt Q pc ll st lay μ bc bs := by
  intro p e s m args below meth c hC H locs cells slots ls hz hP hS h1 h2 hl
  exact lv_aload_n hC.1 hC.2.1 hd rfl (x_lh hl hx) (k p e s m args below meth c hC H locs cells slots ls hz hP hS h1 h2 hl)
theorem xr_aload {i : Nat} {x : Nat} (hd : decode mt.2.1 pc = .ok (.aload i, 2)) (hx : ll[i]? = some (some (xr G x))) (k : RR G l d mc ms z mt Q (pc + 2) ll (xr G x :: st) lay μ bc bs) : RR G l d mc ms z mt Q pc ll st lay μ bc bs := by
  intro p e s m args below meth c hC H locs cells slots ls hz hP hS h1 h2 hl
  exact lv_aload hC.1 hC.2.1 hd (x_lh hl hx) (k p e s m args below meth c hC H locs cells slots ls hz hP hS h1 h2 hl)
theorem xr_istore_n {n : Fin 4} {x : Int} (hd : decode mt.2.1 pc = .ok (.istore_n n, 1)) (hi : (n : Nat) < mt.2.2.1) (hk : x_chk ll n = true) (k : RR G l d mc ms z mt Q (pc + 1) (ll.set n (some (xi x))) st lay μ bc bs) : RR G l d mc ms z mt Q pc ll (xi x :: st) lay μ bc bs := by
  intro p e s m args below meth c hC H locs cells slots ls hz hP hS h1 h2 hl
  exact lv_istore_n hC.1 hC.2.1 hd rfl hl hi rfl (fun ls' h' => k p e s m args below meth c hC H locs cells slots ls' hz hP hS h1 h2 (x_set1 hk h'))
theorem xr_istore {i : Nat} {x : Int} (hd : decode mt.2.1 pc = .ok (.istore i, 2)) (hi : i < mt.2.2.1) (hk : x_chk ll i = true) (k : RR G l d mc ms z mt Q (pc + 2) (ll.set i (some (xi x))) st lay μ bc bs) : RR G l d mc ms z mt Q pc ll (xi x :: st) lay μ bc bs := by
  intro p e s m args below meth c hC H locs cells slots ls hz hP hS h1 h2 hl
  exact lv_istore hC.1 hC.2.1 hd hl hi rfl (fun ls' h' => k p e s m args below meth c hC H locs cells slots ls' hz hP hS h1 h2 (x_set1 hk h'))
theorem xr_astore_n {n : Fin 4} {x : Nat} (hd : decode mt.2.1 pc = .ok (.astore_n n, 1)) (hi : (n : Nat) < mt.2.2.1) (hk : x_chk ll n = true) (k : RR G l d mc ms z mt Q (pc + 1) (ll.set n (some (xr G x))) st lay μ bc bs) : RR G l d mc ms z mt Q pc ll (xr G x :: st) lay μ bc bs := by
  intro p e s m args below meth c hC H locs cells slots ls hz hP hS h1 h2 hl
  exact lv_astore_n hC.1 hC.2.1 hd rfl hl hi rfl (fun ls' h' => k p e s m args below meth c hC H locs cells slots ls' hz hP hS h1 h2 (x_set1 hk h'))
theorem xr_astore {i : Nat} {x : Nat} (hd : decode mt.2.1 pc = .ok (.astore i, 2)) (hi : i < mt.2.2.1) (hk : x_chk ll i = true) (k : RR G l d mc ms z mt Q (pc + 2) (ll.set i (some (xr G x))) st lay μ bc bs) : RR G l d mc ms z mt Q pc ll (xr G x :: st) lay μ bc bs := by
  intro p e s m args below meth c hC H locs cells slots ls hz hP hS h1 h2 hl
  exact lv_astore hC.1 hC.2.1 hd hl hi rfl (fun ls' h' => k p e s m args below meth c hC H locs cells slots ls' hz hP hS h1 h2 (x_set1 hk h'))
theorem xr_lstore_n {n : Fin 4} {x : Int} (hd : decode mt.2.1 pc = .ok (.lstore_n n, 1)) (hi : (n : Nat) + 1 < mt.2.2.1) (hk : x_chk ll n = true) (k : RR G l d mc ms z mt Q (pc + 1) ((ll.set n (some (xl x))).set (n + 1) none) st lay μ bc bs) : RR G l d mc ms z mt Q pc ll (xl x :: st) lay μ bc bs := by
  intro p e s m args below meth c hC H locs cells slots ls hz hP hS h1 h2 hl
  exact lv_lstore_n hC.1 hC.2.1 hd rfl hl hi rfl (fun ls' h' => k p e s m args below meth c hC H locs cells slots ls' hz hP hS h1 h2 (x_set2 hk h'))
theorem xr_lstore {i : Nat} {x : Int} (hd : decode mt.2.1 pc = .ok (.lstore i, 2)) (hi : i + 1 < mt.2.2.1) (hk : x_chk ll i = true) (k : RR G l d mc ms z mt Q (pc + 2) ((ll.set i (some (xl x))).set (i + 1) none) st lay μ bc bs) : RR G l d mc ms z mt Q pc ll (xl x :: st) lay μ bc bs := by
  intro p e s m args below meth c hC H locs cells slots ls hz hP hS h1 h2 hl
  exact lv_lstore hC.1 hC.2.1 hd hl hi rfl (fun ls' h' => k p e s m args below meth c hC H locs cells slots ls' hz hP hS h1 h2 (x_set2 hk h'))
theorem xr_iinc {i : Nat} {n x : Int} (hd : decode mt.2.1 pc = .ok (.iinc i n, 3)) (hx : ll[i]? = some (some (xi x))) (hi : i < mt.2.2.1) (hk : x_chk ll i = true) (k : RR G l d mc ms z mt Q (pc + 3) (ll.set i (some (xi (x + n)))) st lay μ bc bs) : RR G l d mc ms z mt Q pc ll st lay μ bc bs := by
  intro p e s m args below meth c hC H locs cells slots ls hz hP hS h1 h2 hl
  obtain ⟨q, hq⟩ := List.getElem?_of_mem ((mem_prs (q := (i, xi x)) ll 0).mpr ⟨_, (Nat.zero_add _).symm, hx⟩)
  exact lv_iinc hC.1 hC.2.1 hd hl hq (Int32.ofInt_add x n).symm hi rfl (fun ls' h' => k p e s m args below meth c hC H locs cells slots ls' hz hP hS h1 h2 (x_set1 hk h'))
theorem xr_iadd {x y : Int} (hd : decode mt.2.1 pc = .ok (.iadd, 1)) (k : RR G l d mc ms z mt Q (pc + 1) ll (xi (x + y) :: st) lay μ bc bs) : RR G l d mc ms z mt Q pc ll (xi y :: xi x :: st) lay μ bc bs := by
  intro p e s m args below meth c hC H locs cells slots ls hz hP hS h1 h2 hl
  refine lv_iadd hC.1 hC.2.1 hd ?_
  rw [← Int32.ofInt_add]
  exact k p e s m args below meth c hC H locs cells slots ls hz hP hS h1 h2 hl
theorem xr_isub {x y : Int} (hd : decode mt.2.1 pc = .ok (.isub, 1)) (k : RR G l d mc ms z mt Q (pc + 1) ll (xi (x - y) :: st) lay μ bc bs) : RR G l d mc ms z mt Q pc ll (xi y :: xi x :: st) lay μ bc bs := by
  intro p e s m args below meth c hC H locs cells slots ls hz hP hS h1 h2 hl
  refine lv_isub hC.1 hC.2.1 hd ?_
  rw [← Int32.ofInt_sub]
  exact k p e s m args below meth c hC H locs cells slots ls hz hP hS h1 h2 hl
theorem xr_imul {x y : Int} (hd : decode mt.2.1 pc = .ok (.imul, 1)) (k : RR G l d mc ms z mt Q (pc + 1) ll (xi (x * y) :: st) lay μ bc bs) : RR G l d mc ms z mt Q pc ll (xi y :: xi x :: st) lay μ bc bs := by
  intro p e s m args below meth c hC H locs cells slots ls hz hP hS h1 h2 hl
  refine lv_imul hC.1 hC.2.1 hd ?_
  rw [← Int32.ofInt_mul]
  exact k p e s m args below meth c hC H locs cells slots ls hz hP hS h1 h2 hl
theorem xr_ladd {x y : Int} (hd : decode mt.2.1 pc = .ok (.ladd, 1)) (k : RR G l d mc ms z mt Q (pc + 1) ll (xl (x + y) :: st) lay μ bc bs) : RR G l d mc ms z mt Q pc ll (xl y :: xl x :: st) lay μ bc bs := by
  intro p e s m args below meth c hC H locs cells slots ls hz hP hS h1 h2 hl
  refine lv_ladd hC.1 hC.2.1 hd ?_
  rw [← Int64.ofInt_add]
  exact k p e s m args below meth c hC H locs cells slots ls hz hP hS h1 h2 hl
theorem xr_lsub {x y : Int} (hd : decode mt.2.1 pc = .ok (.lsub, 1)) (k : RR G l d mc ms z mt Q (pc + 1) ll (xl (x - y) :: st) lay μ bc bs) : RR G l d mc ms z mt Q pc ll (xl y :: xl x :: st) lay μ bc bs := by
  intro p e s m args below meth c hC H locs cells slots ls hz hP hS h1 h2 hl
  refine lv_lsub hC.1 hC.2.1 hd ?_
  rw [← Int64.ofInt_sub]
  exact k p e s m args below meth c hC H locs cells slots ls hz hP hS h1 h2 hl
theorem xr_iand {x y : Int} (hd : decode mt.2.1 pc = .ok (.iand, 1)) (k : RR G l d mc ms z mt Q (pc + 1) ll (xi (jand x y) :: st) lay μ bc bs) : RR G l d mc ms z mt Q pc ll (xi y :: xi x :: st) lay μ bc bs := by
  intro p e s m args below meth c hC H locs cells slots ls hz hP hS h1 h2 hl
  refine lv_iand hC.1 hC.2.1 hd ?_
  have K := k p e s m args below meth c hC H locs cells slots ls hz hP hS h1 h2 hl
  rw [jand, xi, Int32.ofInt_toInt] at K
  exact K
theorem xr_ior {x y : Int} (hd : decode mt.2.1 pc = .ok (.ior, 1)) (k : RR G l d mc ms z mt Q (pc + 1) ll (xi (jor x y) :: st) lay μ bc bs) : RR G l d mc ms z mt Q pc ll (xi y :: xi x :: st) lay μ bc bs := by
  intro p e s m args below meth c hC H locs cells slots ls hz hP hS h1 h2 hl
  refine lv_ior hC.1 hC.2.1 hd ?_
  have K := k p e s m args below meth c hC H locs cells slots ls hz hP hS h1 h2 hl
  rw [jor, xi, Int32.ofInt_toInt] at K
  exact K
theorem xr_ishl {x y : Int} (hd : decode mt.2.1 pc = .ok (.ishl, 1)) (k : RR G l d mc ms z mt Q (pc + 1) ll (xi (jshl x y) :: st) lay μ bc bs) : RR G l d mc ms z mt Q pc ll (xi y :: xi x :: st) lay μ bc bs := by
  intro p e s m args below meth c hC H locs cells slots ls hz hP hS h1 h2 hl
  refine lv_ishl hC.1 hC.2.1 hd ?_
  have K := k p e s m args below meth c hC H locs cells slots ls hz hP hS h1 h2 hl
  rw [jshl, xi, Int32.ofInt_toInt] at K
  exact K
theorem xr_ishr {x y : Int} (hd : decode mt.2.1 pc = .ok (.ishr, 1)) (k : RR G l d mc ms z mt Q (pc + 1) ll (xi (jshr x y) :: st) lay μ bc bs) : RR G l d mc ms z mt Q pc ll (xi y :: xi x :: st) lay μ bc bs := by
  intro p e s m args below meth c hC H locs cells slots ls hz hP hS h1 h2 hl
  refine lv_ishr hC.1 hC.2.1 hd ?_
  have K := k p e s m args below meth c hC H locs cells slots ls hz hP hS h1 h2 hl
  rw [jshr, xi, Int32.ofInt_toInt] at K
  exact K
theorem xr_iushr {x y : Int} (hd : decode mt.2.1 pc = .ok (.iushr, 1)) (k : RR G l d mc ms z mt Q (pc + 1) ll (xi (jushr x y) :: st) lay μ bc bs) : RR G l d mc ms z mt Q pc ll (xi y :: xi x :: st) lay μ bc bs := by
  intro p e s m args below meth c hC H locs cells slots ls hz hP hS h1 h2 hl
  have K := k p e s m args below meth c hC H locs cells slots ls hz hP hS h1 h2 hl
  rw [jushr, xi, Int32.ofInt_toInt] at K
  exact lv_iushr hC.1 hC.2.1 hd rfl K
theorem xr_idiv {x y : Int} (hd : decode mt.2.1 pc = .ok (.idiv, 1)) (hx : 0 ≤ x ∧ x < 2147483648) (hy : 0 < y ∧ y < 2147483648) (k : RR G l d mc ms z mt Q (pc + 1) ll (xi (x / y) :: st) lay μ bc bs) : RR G l d mc ms z mt Q pc ll (xi y :: xi x :: st) lay μ bc bs := by
  intro p e s m args below meth c hC H locs cells slots ls hz hP hS h1 h2 hl
  refine lv_idiv hC.1 hC.2.1 hd (x_ne0 hy) ?_
  rw [x_div hx hy]
  exact k p e s m args below meth c hC H locs cells slots ls hz hP hS h1 h2 hl
theorem xr_irem {x y : Int} (hd : decode mt.2.1 pc = .ok (.irem, 1)) (hx : 0 ≤ x ∧ x < 2147483648) (hy : 0 < y ∧ y < 2147483648) (k : RR G l d mc ms z mt Q (pc + 1) ll (xi (x % y) :: st) lay μ bc bs) : RR G l d mc ms z mt Q pc ll (xi y :: xi x :: st) lay μ bc bs := by
  intro p e s m args below meth c hC H locs cells slots ls hz hP hS h1 h2 hl
  refine lv_irem hC.1 hC.2.1 hd (x_ne0 hy) ?_
  rw [x_rem hx hy]
  exact k p e s m args below meth c hC H locs cells slots ls hz hP hS h1 h2 hl
theorem xr_i2l {x : Int} (hd : decode mt.2.1 pc = .ok (.i2l, 1)) (hx : iR x) (k : RR G l d mc ms z mt Q (pc + 1) ll (xl x :: st) lay μ bc bs) : RR G l d mc ms z mt Q pc ll (xi x :: st) lay μ bc bs := by
  intro p e s m args below meth c hC H locs cells slots ls hz hP hS h1 h2 hl
  exact lv_i2l hC.1 hC.2.1 hd (x_i2l hx) (k p e s m args below meth c hC H locs cells slots ls hz hP hS h1 h2 hl)
theorem xr_l2i {x : Int} (hd : decode mt.2.1 pc = .ok (.l2i, 1)) (k : RR G l d mc ms z mt Q (pc + 1) ll (xi x :: st) lay μ bc bs) : RR G l d mc ms z mt Q pc ll (xl x :: st) lay μ bc bs := by
  intro p e s m args below meth c hC H locs cells slots ls hz hP hS h1 h2 hl
  exact lv_l2i hC.1 hC.2.1 hd (x_l2i x) (k p e s m args below meth c hC H locs cells slots ls hz hP hS h1 h2 hl)
theorem xr_i2b {x : Int} (hd : decode mt.2.1 pc = .ok (.i2b, 1)) (k : RR G l d mc ms z mt Q (pc + 1) ll (xi (j8 x) :: st) lay μ bc bs) : RR G l d mc ms z mt Q pc ll (xi x :: st) lay μ bc bs := by
  intro p e s m args below meth c hC H locs cells slots ls hz hP hS h1 h2 hl
  exact lv_i2b hC.1 hC.2.1 hd (x_i2b x) (k p e s m args below meth c hC H locs cells slots ls hz hP hS h1 h2 hl)
theorem xr_lor {x y : Int} (hd : decode mt.2.1 pc = .ok (.lor, 1)) (k : RR G l d mc ms z mt Q (pc + 1) ll (xl (jlor x y) :: st) lay μ bc bs) : RR G l d mc ms z mt Q pc ll (xl y :: xl x :: st) lay μ bc bs := by
  intro p e s m args below meth c hC H locs cells slots ls hz hP hS h1 h2 hl
  refine lv_lor hC.1 hC.2.1 hd ?_
  have K := k p e s m args below meth c hC H locs cells slots ls hz hP hS h1 h2 hl
  rw [jlor, xl, Int64.ofInt_toInt] at K
  exact K
theorem xr_lshl {x y : Int} (hd : decode mt.2.1 pc = .ok (.lshl, 1)) (k : RR G l d mc ms z mt Q (pc + 1) ll (xl (jlshl x y) :: st) lay μ bc bs) : RR G l d mc ms z mt Q pc ll (xi y :: xl x :: st) lay μ bc bs := by
  intro p e s m args below meth c hC H locs cells slots ls hz hP hS h1 h2 hl
  have K := k p e s m args below meth c hC H locs cells slots ls hz hP hS h1 h2 hl
  rw [jlshl, xl, Int64.ofInt_toInt] at K
  exact lv_lshl hC.1 hC.2.1 hd rfl K
theorem xr_lushr {x y : Int} (hd : decode mt.2.1 pc = .ok (.lushr, 1)) (k : RR G l d mc ms z mt Q (pc + 1) ll (xl (jlushr x y) :: st) lay μ bc bs) : RR G l d mc ms z mt Q pc ll (xi y :: xl x :: st) lay μ bc bs := by
  intro p e s m args below meth c hC H locs cells slots ls hz hP hS h1 h2 hl
  have K := k p e s m args below meth c hC H locs cells slots ls hz hP hS h1 h2 hl
  rw [jlushr, xl, Int64.ofInt_toInt] at K
  exact lv_lushr hC.1 hC.2.1 hd rfl K
theorem xr_lcmp {x y : Int} (hd : decode mt.2.1 pc = .ok (.lcmp, 1)) (hx : lR x) (hy : lR y) (k : RR G l d mc ms z mt Q (pc + 1) ll (xi (jcmp x y) :: st) lay μ bc bs) : RR G l d mc ms z mt Q pc ll (xl y :: xl x :: st) lay μ bc bs := by
  intro p e s m args below meth c hC H locs cells slots ls hz hP hS h1 h2 hl
  refine W.lcmp hC.1 hC.2.1 hd ?_
  have K := k p e s m args below meth c hC H locs cells slots ls hz hP hS h1 h2 hl
  rw [x_lcmp hx hy] at K
  exact K
theorem xr_dup {v : Value} (hd : decode mt.2.1 pc = .ok (.dup, 1)) (hc : v.category = 1) (k : RR G l d mc ms z mt Q (pc + 1) ll (v :: v :: st) lay μ bc bs) : RR G l d mc ms z mt Q pc ll (v :: st) lay μ bc bs := by
  intro p e s m args below meth c hC H locs cells slots ls hz hP hS h1 h2 hl
  exact lv_dup hC.1 hC.2.1 hd hc (k p e s m args below meth c hC H locs cells slots ls hz hP hS h1 h2 hl)
theorem xr_pop {v : Value} (hd : decode mt.2.1 pc = .ok (.pop, 1)) (hc : v.category = 1) (k : RR G l d mc ms z mt Q (pc + 1) ll st lay μ bc bs) : RR G l d mc ms z mt Q pc ll (v :: st) lay μ bc bs := by
  intro p e s m args below meth c hC H locs cells slots ls hz hP hS h1 h2 hl
  exact lv_pop hC.1 hC.2.1 hd hc (k p e s m args below meth c hC H locs cells slots ls hz hP hS h1 h2 hl)
theorem xr_dup2 {v w : Value} (hd : decode mt.2.1 pc = .ok (.dup2, 1)) (hv : v.category = 1) (hw : w.category = 1) (k : RR G l d mc ms z mt Q (pc + 1) ll (v :: w :: v :: w :: st) lay μ bc bs) : RR G l d mc ms z mt Q pc ll (v :: w :: st) lay μ bc bs := by
  intro p e s m args below meth c hC H locs cells slots ls hz hP hS h1 h2 hl
  exact lv_dup2_11 hC.1 hC.2.1 hd hv hw (k p e s m args below meth c hC H locs cells slots ls hz hP hS h1 h2 hl)
theorem xr_if_eq {x : Int} {off : Int} {tgt : Nat} (hd : decode mt.2.1 pc = .ok (.ifCond .eq off, 3)) (ht : (pc : Int) + off = (tgt : Int)) (hx : iR x) (kt : x = 0 → RR G l d mc ms z mt Q tgt ll st lay μ bc bs) (kf : ¬ (x = 0) → RR G l d mc ms z mt Q (pc + 3) ll st lay μ bc bs) : RR G l d mc ms z mt Q pc ll (xi x :: st) lay μ bc bs := by
  intro p e s m args below meth c hC H locs cells slots ls hz hP hS h1 h2 hl
  exact lv_if_eq hC.1 hC.2.1 hd ht (fun h => kt ((x_eq0 hx).mp h) p e s m args below meth c hC H locs cells slots ls hz hP hS h1 h2 hl) (fun h => kf ((fun q => h ((x_eq0 hx).mpr q))) p e s m args below meth c hC H locs cells slots ls hz hP hS h1 h2 hl)
theorem xr_if_ne {x : Int} {off : Int} {tgt : Nat} (hd : decode mt.2.1 pc = .ok (.ifCond .ne off, 3)) (ht : (pc : Int) + off = (tgt : Int)) (hx : iR x) (kt : x ≠ 0 → RR G l d mc ms z mt Q tgt ll st lay μ bc bs) (kf : x = 0 → RR G l d mc ms z mt Q (pc + 3) ll st lay μ bc bs) : RR G l d mc ms z mt Q pc ll (xi x :: st) lay μ bc bs := by
  intro p e s m args below meth c hC H locs cells slots ls hz hP hS h1 h2 hl
  exact lv_if_ne hC.1 hC.2.1 hd ht (fun h => kt ((x_nz0 hx).mp h) p e s m args below meth c hC H locs cells slots ls hz hP hS h1 h2 hl) (fun h => kf ((x_eq0 hx).mp h) p e s m args below meth c hC H locs cells slots ls hz hP hS h1 h2 hl)
theorem xr_if_lt {x : Int} {off : Int} {tgt : Nat} (hd : decode mt.2.1 pc = .ok (.ifCond .lt off, 3)) (ht : (pc : Int) + off = (tgt : Int)) (hx : iR x) (kt : x < 0 → RR G l d mc ms z mt Q tgt ll st lay μ bc bs) (kf : ¬ (x < 0) → RR G l d mc ms z mt Q (pc + 3) ll st lay μ bc bs) : RR G l d mc ms z mt Q pc ll (xi x :: st) lay μ bc bs := by
  intro p e s m args below meth c hC H locs cells slots ls hz hP hS h1 h2 hl
  exact lv_if_lt hC.1 hC.2.1 hd ht (fun h => kt ((x_lt0 hx).mp h) p e s m args below meth c hC H locs cells slots ls hz hP hS h1 h2 hl) (fun h => kf ((fun q => h ((x_lt0 hx).mpr q))) p e s m args below meth c hC H locs cells slots ls hz hP hS h1 h2 hl)
theorem xr_if_ge {x : Int} {off : Int} {tgt : Nat} (hd : decode mt.2.1 pc = .ok (.ifCond .ge off, 3)) (ht : (pc : Int) + off = (tgt : Int)) (hx : iR x) (kt : 0 ≤ x → RR G l d mc ms z mt Q tgt ll st lay μ bc bs) (kf : ¬ (0 ≤ x) → RR G l d mc ms z mt Q (pc + 3) ll st lay μ bc bs) : RR G l d mc ms z mt Q pc ll (xi x :: st) lay μ bc bs := by
  intro p e s m args below meth c hC H locs cells slots ls hz hP hS h1 h2 hl
  exact lv_if_ge hC.1 hC.2.1 hd ht (fun h => kt ((x_ge0 hx).mp h) p e s m args below meth c hC H locs cells slots ls hz hP hS h1 h2 hl) (fun h => kf ((fun q => h ((x_ge0 hx).mpr q))) p e s m args below meth c hC H locs cells slots ls hz hP hS h1 h2 hl)
theorem xr_if_gt {x : Int} {off : Int} {tgt : Nat} (hd : decode mt.2.1 pc = .ok (.ifCond .gt off, 3)) (ht : (pc : Int) + off = (tgt : Int)) (hx : iR x) (kt : 0 < x → RR G l d mc ms z mt Q tgt ll st lay μ bc bs) (kf : ¬ (0 < x) → RR G l d mc ms z mt Q (pc + 3) ll st lay μ bc bs) : RR G l d mc ms z mt Q pc ll (xi x :: st) lay μ bc bs := by
  intro p e s m args below meth c hC H locs cells slots ls hz hP hS h1 h2 hl
  exact lv_if_gt hC.1 hC.2.1 hd ht (fun h => kt ((x_gt0 hx).mp h) p e s m args below meth c hC H locs cells slots ls hz hP hS h1 h2 hl) (fun h => kf ((fun q => h ((x_gt0 hx).mpr q))) p e s m args below meth c hC H locs cells slots ls hz hP hS h1 h2 hl)
theorem xr_if_le {x : Int} {off : Int} {tgt : Nat} (hd : decode mt.2.1 pc = .ok (.ifCond .le off, 3)) (ht : (pc : Int) + off = (tgt : Int)) (hx : iR x) (kt : x ≤ 0 → RR G l d mc ms z mt Q tgt ll st lay μ bc bs) (kf : ¬ (x ≤ 0) → RR G l d mc ms z mt Q (pc + 3) ll st lay μ bc bs) : RR G l d mc ms z mt Q pc ll (xi x :: st) lay μ bc bs := by
  intro p e s m args below meth c hC H locs cells slots ls hz hP hS h1 h2 hl
  exact lv_if_le hC.1 hC.2.1 hd ht (fun h => kt ((x_le0 hx).mp h) p e s m args below meth c hC H locs cells slots ls hz hP hS h1 h2 hl) (fun h => kf ((fun q => h ((x_le0 hx).mpr q))) p e s m args below meth c hC H locs cells slots ls hz hP hS h1 h2 hl)
theorem xr_icmp_eq {x y : Int} {off : Int} {tgt : Nat} (hd : decode mt.2.1 pc = .ok (.if_icmp .eq off, 3)) (ht : (pc : Int) + off = (tgt : Int)) (hx : iR x) (hy : iR y) (kt : x = y → RR G l d mc ms z mt Q tgt ll st lay μ bc bs) (kf : ¬ (x = y) → RR G l d mc ms z mt Q (pc + 3) ll st lay μ bc bs) : RR G l d mc ms z mt Q pc ll (xi y :: xi x :: st) lay μ bc bs := by
  intro p e s m args below meth c hC H locs cells slots ls hz hP hS h1 h2 hl
  exact lv_icmp_eq hC.1 hC.2.1 hd ht (fun h => kt ((x_eq hx hy).mp h) p e s m args below meth c hC H locs cells slots ls hz hP hS h1 h2 hl) (fun h => kf ((fun q => h ((x_eq hx hy).mpr q))) p e s m args below meth c hC H locs cells slots ls hz hP hS h1 h2 hl)
theorem xr_icmp_ne {x y : Int} {off : Int} {tgt : Nat} (hd : decode mt.2.1 pc = .ok (.if_icmp .ne off, 3)) (ht : (pc : Int) + off = (tgt : Int)) (hx : iR x) (hy : iR y) (kt : x ≠ y → RR G l d mc ms z mt Q tgt ll st lay μ bc bs) (kf : x = y → RR G l d mc ms z mt Q (pc + 3) ll st lay μ bc bs) : RR G l d mc ms z mt Q pc ll (xi y :: xi x :: st) lay μ bc bs := by
  intro p e s m args below meth c hC H locs cells slots ls hz hP hS h1 h2 hl
  exact lv_icmp_ne hC.1 hC.2.1 hd ht (fun h => kt ((x_ne hx hy).mp h) p e s m args below meth c hC H locs cells slots ls hz hP hS h1 h2 hl) (fun h => kf ((x_eq hx hy).mp h) p e s m args below meth c hC H locs cells slots ls hz hP hS h1 h2 hl)
theorem xr_icmp_lt {x y : Int} {off : Int} {tgt : Nat} (hd : decode mt.2.1 pc = .ok (.if_icmp .lt off, 3)) (ht : (pc : Int) + off = (tgt : Int)) (hx : iR x) (hy : iR y) (kt : x < y → RR G l d mc ms z mt Q tgt ll st lay μ bc bs) (kf : ¬ (x < y) → RR G l d mc ms z mt Q (pc + 3) ll st lay μ bc bs) : RR G l d mc ms z mt Q pc ll (xi y :: xi x :: st) lay μ bc bs := by
  intro p e s m args below meth c hC H locs cells slots ls hz hP hS h1 h2 hl
  exact lv_icmp_lt hC.1 hC.2.1 hd ht (fun h => kt ((x_lt hx hy).mp h) p e s m args below meth c hC H locs cells slots ls hz hP hS h1 h2 hl) (fun h => kf ((fun q => h ((x_lt hx hy).mpr q))) p e s m args below meth c hC H locs cells slots ls hz hP hS h1 h2 hl)
theorem xr_icmp_ge {x y : Int} {off : Int} {tgt : Nat} (hd : decode mt.2.1 pc = .ok (.if_icmp .ge off, 3)) (ht : (pc : Int) + off = (tgt : Int)) (hx : iR x) (hy : iR y) (kt : y ≤ x → RR G l d mc ms z mt Q tgt ll st lay μ bc bs) (kf : ¬ (y ≤ x) → RR G l d mc ms z mt Q (pc + 3) ll st lay μ bc bs) : RR G l d mc ms z mt Q pc ll (xi y :: xi x :: st) lay μ bc bs := by
  intro p e s m args below meth c hC H locs cells slots ls hz hP hS h1 h2 hl
  exact lv_icmp_ge hC.1 hC.2.1 hd ht (fun h => kt ((x_ge hx hy).mp h) p e s m args below meth c hC H locs cells slots ls hz hP hS h1 h2 hl) (fun h => kf ((fun q => h ((x_ge hx hy).mpr q))) p e s m args below meth c hC H locs cells slots ls hz hP hS h1 h2 hl)
theorem xr_icmp_gt {x y : Int} {off : Int} {tgt : Nat} (hd : decode mt.2.1 pc = .ok (.if_icmp .gt off, 3)) (ht : (pc : Int) + off = (tgt : Int)) (hx : iR x) (hy : iR y) (kt : y < x → RR G l d mc ms z mt Q tgt ll st lay μ bc bs) (kf : ¬ (y < x) → RR G l d mc ms z mt Q (pc + 3) ll st lay μ bc bs) : RR G l d mc ms z mt Q pc ll (xi y :: xi x :: st) lay μ bc bs := by
  intro p e s m args below meth c hC H locs cells slots ls hz hP hS h1 h2 hl
  exact lv_icmp_gt hC.1 hC.2.1 hd ht (fun h => kt ((x_gt hx hy).mp h) p e s m args below meth c hC H locs cells slots ls hz hP hS h1 h2 hl) (fun h => kf ((fun q => h ((x_gt hx hy).mpr q))) p e s m args below meth c hC H locs cells slots ls hz hP hS h1 h2 hl)
theorem xr_icmp_le {x y : Int} {off : Int} {tgt : Nat} (hd : decode mt.2.1 pc = .ok (.if_icmp .le off, 3)) (ht : (pc : Int) + off = (tgt : Int)) (hx : iR x) (hy : iR y) (kt : x ≤ y → RR G l d mc ms z mt Q tgt ll st lay μ bc bs) (kf : ¬ (x ≤ y) → RR G l d mc ms z mt Q (pc + 3) ll st lay μ bc bs) : RR G l d mc ms z mt Q pc ll (xi y :: xi x :: st) lay μ bc bs := by
  intro p e s m args below meth c hC H locs cells slots ls hz hP hS h1 h2 hl
  exact lv_icmp_le hC.1 hC.2.1 hd ht (fun h => kt ((x_le hx hy).mp h) p e s m args below meth c hC H locs cells slots ls hz hP hS h1 h2 hl) (fun h => kf ((fun q => h ((x_le hx hy).mpr q))) p e s m args below meth c hC H locs cells slots ls hz hP hS h1 h2 hl)
theorem xr_goto {off : Int} {tgt : Nat} (hd : decode mt.2.1 pc = .ok (.goto off, 3)) (ht : (pc : Int) + off = (tgt : Int)) (k : RR G l d mc ms z mt Q tgt ll st lay μ bc bs) : RR G l d mc ms z mt Q pc ll st lay μ bc bs := by
  intro p e s m args below meth c hC H locs cells slots ls hz hP hS h1 h2 hl
  exact lv_goto hC.1 hC.2.1 hd ht (k p e s m args below meth c hC H locs cells slots ls hz hP hS h1 h2 hl)
theorem xr_tabIn {x : Int} {dflt lo hi : Int} {offs : Array Int} {len : Nat} {off : Int} {tgt : Nat} (hd : decode mt.2.1 pc = .ok (.tableswitch dflt lo hi offs, len)) (hx : iR x) (g1 : ¬ x < lo) (g2 : ¬ hi < x) (ho : offs[(x - lo).toNat]? = some off) (ht : (pc : Int) + off = (tgt : Int)) (k : RR G l d mc ms z mt Q tgt ll st lay μ bc bs) : RR G l d mc ms z mt Q pc ll (xi x :: st) lay μ bc bs := by
  intro p e s m args below meth c hC H locs cells slots ls hz hP hS h1 h2 hl
  exact lv_tableIn hC.1 hC.2.1 hd (by rw [x_ti hx]; exact g1) (by rw [x_ti hx]; exact g2) (by rw [x_ti hx]; exact ho) ht (k p e s m args below meth c hC H locs cells slots ls hz hP hS h1 h2 hl)
theorem xr_tabOut {x : Int} {dflt lo hi : Int} {offs : Array Int} {len : Nat} {tgt : Nat} (hd : decode mt.2.1 pc = .ok (.tableswitch dflt lo hi offs, len)) (hx : iR x) (g : x < lo ∨ hi < x) (ht : (pc : Int) + dflt = (tgt : Int)) (k : RR G l d mc ms z mt Q tgt ll st lay μ bc bs) : RR G l d mc ms z mt Q pc ll (xi x :: st) lay μ bc bs := by
  intro p e s m args below meth c hC H locs cells slots ls hz hP hS h1 h2 hl
  exact lv_tableOut hC.1 hC.2.1 hd (by rw [x_ti hx]; exact g) ht (k p e s m args below meth c hC H locs cells slots ls hz hP hS h1 h2 hl)
theorem xr_weak {ll' : xLL} (hw : x_sub ll' ll = true) (k : RR G l d mc ms z mt Q pc ll' st lay μ bc bs) : RR G l d mc ms z mt Q pc ll st lay μ bc bs := by
  intro p e s m args below meth c hC H locs cells slots ls hz hP hS h1 h2 hl
  exact k p e s m args below meth c hC H locs cells slots ls hz hP hS h1 h2 ⟨hl.1, hl.2.1, fun q hq => hl.2.2 q (x_sub_mem hw hq)⟩
end RulesA
