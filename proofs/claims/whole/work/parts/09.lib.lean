section LibA
variable {G : xG} {l : Launch} {d mc ms pc bc bs : Nat} {z : Bool} {mt : xMT} {Q : Option Value → List xLay → xMem → Prop} {ll : xLL} {st : List Value} {lay : List xLay} {μ : xMem}
/-- an object is made -/
theorem xr_new {ci index N : Nat} {C : String} {T : u_T} {ty : Nat → FieldType} {fs : List (Option (Option Nat))} (hd : decode mt.2.1 pc = .ok (.new index, 3)) (hcl : Cond.classLink mt.1.cls index C ∈ xTs) (hins : Cond.instantiable C N ∈ xTs) (hini : Cond.initialized C ∈ xTs) (hc : vwCl[ci]? = some (C, T, N)) (hin : ∀ w ∈ u_ws C T N, w ∈ xTs) (hty : ∀ k, k < N → parseFieldDescriptor (T k).2.2.1 = some (ty k)) (hz9 : z = true) (hb1 : 1 ≤ bc) (hb2 : N ≤ bs) (h0 : ∀ i, μ lay.length i = 0)
    (hfs : ∀ j, j < N → defaultValue (ty j) = vp_V (flds G (fun _ => 0) 0 fs) j)
    (K : RR G l d mc ms z mt Q (pc + 3) ll (xr G lay.length :: st) (lay ++ [.inr (ci, fs)]) μ (bc - 1) (bs - N)) : RR G l d mc ms z mt Q pc ll st lay μ bc bs := by
  intro p e s m args below meth c hC H locs cells slots ls hz hP hS h1 h2 hl
  have hC0 := hC
  obtain ⟨hx9, hb, -, -, hown, hts, -, -, hK, hN, -, hB⟩ := hC
  have hsz := hz.2 hz9
  have hKn := hK.1 ci _ hc
  refine W.newcK hx9 hb hown (hts _ hcl) (hts _ hins) (hts _ hini) rfl hd (by show cells + 1 ≤ mc; omega) (by show slots + N ≤ ms; omega) hKn.2.1 hsz fun H1 kC hkC e1 z1 o1 => ?_
  refine K p e s m args below meth c hC0 H1 locs (cells + 1) (slots + N) ls ⟨by rw [z1, List.length_append]; show G.1 + (lay.length + 1) ≤ _; omega, fun _ => by rw [z1, List.length_append]; show _ = G.1 + (lay.length + 1); omega⟩ (WP.push hsz hP (fun q hq => o1 q (by omega)) ?_) ⟨by rw [z1]; exact Nat.le_trans (hsz ▸ hS.1) (Nat.le_succ _), fun q g1 g2 => (o1 q (by have := hS.1; omega)).trans (hS.2.1 q g1 g2), hS.2.2⟩ (by omega) (by omega) hl
  have hz0 : μ lay.length = fun _ => 0 := funext h0
  refine ⟨_, hc, ?_⟩
  rw [hz0]
  exact (u_born ty hts hin hKn hkC e1 hty).to hfs
theorem xr_ps {index : Nat} {host : String} (hd : decode mt.2.1 pc = .ok (.getstatic index, 3)) (hlink : Cond.fieldLinkNest mt.1.cls index "ClueRoom" "PLAY_SYMBOLS" "[I" host ∈ xTn)
    (K : RR G l d mc ms z mt Q (pc + 3) ll (.ref (G.2.2.2 0) :: st) lay μ bc bs) : RR G l d mc ms z mt Q pc ll st lay μ bc bs := by
  intro p e s m args below meth c hC H locs cells slots ls hz hP hS h1 h2 hl
  have K1 := K p e s m args below meth c hC H locs cells slots ls hz hP hS h1 h2 hl
  obtain ⟨hx9, hb, -, -, hown, hts, -, -, hK, hN, hT, hB⟩ := hC
  exact va_getsN hx9 hb hT.1 hS hown (va_Nw.use rfl (hN _ hlink)) (fun _ h => h) hd K1
theorem xr_psld {i : Int} (hd : decode mt.2.1 pc = .ok (.iaload, 1)) (hi : 0 ≤ i ∧ i < 10)
    (K : RR G l d mc ms z mt Q (pc + 1) ll (xi (xPS i.toNat) :: st) lay μ bc bs) : RR G l d mc ms z mt Q pc ll (xi i :: .ref (G.2.2.2 0) :: st) lay μ bc bs := by
  intro p e s m args below meth c hC H locs cells slots ls hz hP hS h1 h2 hl
  have K1 := K p e s m args below meth c hC H locs cells slots ls hz hP hS h1 h2 hl
  obtain ⟨a1, a2⟩ := x_in (n := 10) hi (by omega)
  obtain ⟨hx9, hb, -, -, hown, hts, -, -, hK, hN, hT, hB⟩ := hC
  exact va_ti hx9 hb hT.2.1 hS a1 (by rw [a2]) hd K1
theorem xr_min {index : Nat} {x y : Int} (hd : decode mt.2.1 pc = .ok (.invokestatic index, 3)) (hlink : Cond.methodLink mt.1.cls index Lib.Math.min.name ∈ xTs) (hst : Cond.static Lib.Math.min.name ∈ xTs) (hini : Cond.initialized "java/lang/Math" ∈ xTs) (hco : Cond.code Lib.Math.min.name Lib.Math.min.code 2 (some .int) ∈ xTs) (hdd : 1 ≤ d) (hw : (st.map fun v => v.category).sum ≤ 8) (hx : iR x) (hy : iR y)
    (K : RR G l d mc ms z mt Q (pc + 3) ll (xi (if y < x then y else x) :: st) lay μ bc bs) : RR G l d mc ms z mt Q pc ll (xi y :: xi x :: st) lay μ bc bs := by
  intro p e s m args below meth c hC H locs cells slots ls hz hP hS h1 h2 hl
  have K1 := K p e s m args below meth c hC H locs cells slots ls hz hP hS h1 h2 hl
  have hml := x_len0 hC hl
  obtain ⟨hx9, hb, -, -, hown, hts, -, -, hK, hN, hT, hB⟩ := hC
  refine va_mmin hx9 hb hml hown (hts _ hlink) (hts _ hst) (hts _ hini) (hts _ hco) hdd (by show _ + 13 ≤ 64 * d; omega) (by show cells ≤ mc; omega) (by show slots ≤ ms; omega) hd ?_
  have e : xi (if y < x then y else x) = .int (if Int32.ofInt y < Int32.ofInt x then Int32.ofInt y else Int32.ofInt x) := by
    by_cases h : y < x
    · rw [if_pos h, if_pos ((x_lt hy hx).mpr h)]; rfl
    · rw [if_neg h, if_neg (fun q => h ((x_lt hy hx).mp q))]; rfl
  rw [← e]
  exact K1
theorem xr_max {index : Nat} {x y : Int} (hd : decode mt.2.1 pc = .ok (.invokestatic index, 3)) (hlink : Cond.methodLink mt.1.cls index Lib.Math.max.name ∈ xTs) (hst : Cond.static Lib.Math.max.name ∈ xTs) (hini : Cond.initialized "java/lang/Math" ∈ xTs) (hco : Cond.code Lib.Math.max.name Lib.Math.max.code 2 (some .int) ∈ xTs) (hdd : 1 ≤ d) (hw : (st.map fun v => v.category).sum ≤ 8) (hx : iR x) (hy : iR y)
    (K : RR G l d mc ms z mt Q (pc + 3) ll (xi (if x < y then y else x) :: st) lay μ bc bs) : RR G l d mc ms z mt Q pc ll (xi y :: xi x :: st) lay μ bc bs := by
  intro p e s m args below meth c hC H locs cells slots ls hz hP hS h1 h2 hl
  have K1 := K p e s m args below meth c hC H locs cells slots ls hz hP hS h1 h2 hl
  have hml := x_len0 hC hl
  obtain ⟨hx9, hb, -, -, hown, hts, -, -, hK, hN, hT, hB⟩ := hC
  refine va_mmax hx9 hb hml hown (hts _ hlink) (hts _ hst) (hts _ hini) (hts _ hco) hdd (by show _ + 13 ≤ 64 * d; omega) (by show cells ≤ mc; omega) (by show slots ≤ ms; omega) hd ?_
  have e : xi (if x < y then y else x) = .int (if Int32.ofInt x < Int32.ofInt y then Int32.ofInt y else Int32.ofInt x) := by
    by_cases h : x < y
    · rw [if_pos h, if_pos ((x_lt hx hy).mpr h)]; rfl
    · rw [if_neg h, if_neg (fun q => h ((x_lt hx hy).mp q))]; rfl
  rw [← e]
  exact K1
/-- the world as the kit's list -/
def wsL (G : xG) (μ : xMem) : Nat → List xLay → va_W
  | _, [] => []
  | k, L :: r => (G.1 + k, rd G (μ k) L) :: wsL G μ (k + 1) r
theorem wsL_get : ∀ (r : List xLay) (k j : Nat), (wsL G μ k r)[j]? = r[j]?.map (fun L => (G.1 + (k + j), rd G (μ (k + j)) L))
  | [], k, j => by simp [wsL]
  | L :: r, k, 0 => by simp [wsL]
  | L :: r, k, j + 1 => by
    rw [wsL, List.getElem?_cons_succ, wsL_get r (k + 1) j, List.getElem?_cons_succ]
    congr 1
    funext L'
    rw [show k + 1 + j = k + (j + 1) by omega]
theorem wsL_P {H : Heap} (hP : WP G lay μ H) : va_P G.2.1 vwCl (wsL G μ 0 lay) H := by
  intro k q hk
  rw [wsL_get] at hk
  cases h : lay[k]? with
  | none => rw [h] at hk; cases hk
  | some L =>
    rw [h] at hk
    cases hk
    rw [Nat.zero_add]
    exact hP k L h
theorem wsL_D : va_D (xA G) (wsL G μ 0 lay) := by
  refine ⟨fun i j p q hi hj e => ?_, fun k q hk => ?_⟩
  · rw [wsL_get] at hi hj
    cases h1 : lay[i]? with
    | none => rw [h1] at hi; cases hi
    | some L1 =>
      cases h2 : lay[j]? with
      | none => rw [h2] at hj; cases hj
      | some L2 =>
        rw [h1] at hi
        rw [h2] at hj
        cases hi
        cases hj
        simp only at e
        omega
  · rw [wsL_get] at hk
    cases h : lay[k]? with
    | none => rw [h] at hk; cases hk
    | some L =>
      rw [h] at hk
      cases hk
      exact Nat.le_add_right _ _
theorem wsL_back {H : Heap} {k : Nat} {L : xLay} {μ' : xMem} {q : Nat × va_E} (hL : lay[k]? = some L) (hμ : ∀ k', k' ≠ k → μ' k' = μ k') (hq : q = (G.1 + k, rd G (μ' k) L)) (h : va_P G.2.1 vwCl ((wsL G μ 0 lay).set k q) H) : WP G lay μ' H := by
  intro k' L' hk
  have h9 : ((wsL G μ 0 lay).set k q)[k']? = some (G.1 + k', rd G (μ' k') L') := by
    rw [List.getElem?_set]
    by_cases e : k = k'
    · subst e
      cases Option.some.inj (hL.symm.trans hk)
      have hlt : k < (wsL G μ 0 lay).length := by
        have := wsL_get (G := G) (μ := μ) lay 0 k
        rw [hL] at this
        exact (List.getElem?_eq_some_iff.mp this).1
      rw [if_pos rfl, if_pos hlt, hq]
    · rw [if_neg e, wsL_get, hk, Nat.zero_add, hμ k' (fun q => e q.symm)]
      rfl
  exact h k' _ h9
def cpy (μ : xMem) (ks : Nat) (sp : Int) (kd : Nat) (dp n : Int) : xMem := fun k i => if k = kd ∧ dp ≤ i ∧ i < dp + n then μ ks (sp + (i - dp)) else μ k i
theorem x_nn {i : Int} (h : 0 ≤ i) (h2 : i < 2147483648) : ¬ Int32.ofInt i < 0 ∧ (Int32.ofInt i).toNatClampNeg = i.toNat := by
  refine ⟨fun q => ?_, ?_⟩
  · rw [x_lt0 (by omega)] at q; omega
  · rw [Int32.toNatClampNeg, x_ti (by omega)]
/-- System.arraycopy of ints -/
theorem xr_copyI {index ks kd ns nd : Nat} {sp dp n : Int} (hd : decode mt.2.1 pc = .ok (.invokestatic index, 3)) (hlink : Cond.methodLink mt.1.cls index arraycopyName ∈ xTs) (hnat : Cond.native arraycopyName ∈ xTs) (hstat : Cond.static arraycopyName ∈ xTs) (hini : Cond.initialized "java/lang/System" ∈ xTs) (hdd : 1 ≤ d) (hw : (st.map fun v => v.category).sum ≤ 8)
    (hLs : lay[ks]? = some (.inl (0, ns))) (hLd : lay[kd]? = some (.inl (0, nd))) (hns : ns < 2147483648) (hnd : nd < 2147483648) (h1' : 0 ≤ sp) (h2' : 0 ≤ dp) (h3' : 0 ≤ n) (h4' : sp + n ≤ (ns : Int)) (h5' : dp + n ≤ (nd : Int))
    (K : RR G l d mc ms z mt Q (pc + 3) ll st lay (cpy μ ks sp kd dp n) bc bs) (hz0 : z = false) : RR G l d mc ms z mt Q pc ll (xi n :: xi dp :: xr G kd :: xi sp :: xr G ks :: st) lay μ bc bs := by
  intro p e s m args below meth c hC H locs cells slots ls hz hP hS h1 h2 hl
  have hC0 := hC
  have hml := x_len0 hC hl
  obtain ⟨hx9, hb, -, -, hown, hts, -, -, hK, hN, hT, hB⟩ := hC
  obtain ⟨a1, a2⟩ := x_nn (i := sp) h1' (by omega)
  obtain ⟨b1, b2⟩ := x_nn (i := dp) h2' (by omega)
  obtain ⟨c1, c2⟩ := x_nn (i := n) h3' (by omega)
  have gs := wsL_get (G := G) (μ := μ) lay 0 ks
  have gd := wsL_get (G := G) (μ := μ) lay 0 kd
  rw [hLs, Nat.zero_add] at gs
  rw [hLd, Nat.zero_add] at gd
  refine va_copyi hx9 hb hml hown (hts _ hlink) (hts _ hnat) (hts _ hstat) (hts _ hini) hK (wsL_P hP) wsL_D hS ks kd 0 0 gs gd rfl rfl rfl a1 b1 c1 (by rw [a2, c2]; omega) (by rw [b2, c2]; omega) (fun i _ => rfl) hdd ?_ hd fun H1 locs1 hP1 hD1 hS1 => ?_
  · show _ + (nativeFrameWords "java/lang/System" "arraycopy" 5 + 11) ≤ 64 * d
    have hnw : nativeFrameWords "java/lang/System" "arraycopy" 5 ≤ 20 := by decide
    omega
  have hP2 : WP G lay (cpy μ ks sp kd dp n) H1 := by
    refine wsL_back hLd (fun k' h => by funext i; simp [cpy, h]) ?_ hP1
    rw [a2, b2, c2]
    congr 2
    refine Prod.ext rfl (Prod.ext rfl ?_)
    show Sum.inl _ = Sum.inl _
    congr 1
    funext j
    simp only [va_cpy, cpy, true_and]
    by_cases hj : dp ≤ (j : Int) ∧ (j : Int) < dp + n
    · rw [if_pos hj, if_pos (by omega)]
      congr 2
      omega
    · rw [if_neg hj, if_neg (by omega)]
  refine K p e s m args below meth c hC0 H1 locs1 cells slots ls ⟨?_, fun h => by rw [hz0] at h; cases h⟩ hP2 hS1 h1 h2 hl
  rcases Nat.eq_zero_or_pos lay.length with h0 | h0
  · rw [h0]; exact Nat.le_trans hB hS1.1
  · have hlast := hP2 (lay.length - 1) (lay[lay.length - 1]'(by omega)) (List.getElem?_eq_getElem (by omega))
    have := hlast.lt
    simp only at this
    omega
end LibA
