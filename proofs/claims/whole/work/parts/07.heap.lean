/-! THE RULES of RR that read and write the world -/
section HeapA
variable {G : xG} {l : Launch} {d mc ms pc bc bs : Nat} {z : Bool} {mt : xMT} {Q : Option Value → List xLay → xMem → Prop} {ll : xLL} {st : List Value} {lay : List xLay} {μ : xMem}
def st2 (μ : xMem) (k : Nat) (i v : Int) : xMem := fun k' i' => if k' = k ∧ i' = i then v else μ k' i'
theorem x_one {D : va_G} {cl : List vw_C} {q : Nat × va_E} {H : Heap} (h : va_at D cl q H) : va_P D cl [q] H := by
  intro k x hk
  have hz : k < 1 := (List.getElem?_eq_some_iff.mp hk).1
  rw [show k = 0 by omega] at hk
  cases hk
  exact h
theorem flds_get {f : Int → Int} {fx : Option (Option Nat)} : ∀ (fs : List (Option (Option Nat))) (i j : Nat), fs[j]? = some fx → (flds G f i fs)[j]? = some (fv G f (i + j) fx)
  | [], i, j, h => by simp at h
  | x :: xs, i, 0, h => by
    simp at h
    subst h
    rfl
  | x :: xs, i, j + 1, h => by
    rw [flds, List.getElem?_cons_succ, flds_get xs (i + 1) j (by simpa using h)]
    congr 2
    omega
theorem flds_len {f : Int → Int} : ∀ (fs : List (Option (Option Nat))) (i : Nat), (flds G f i fs).length = fs.length
  | [], i => rfl
  | x :: xs, i => by rw [flds, List.length_cons, List.length_cons, flds_len xs (i + 1)]
theorem flds_setI {f : Int → Int} {v : Int} : ∀ (fs : List (Option (Option Nat))) (i j : Nat), fs[j]? = some none → (flds G f i fs).set j (xi v) = flds G (fun q => if q = ((i + j : Nat) : Int) then v else f q) i fs
  | [], i, j, h => by simp at h
  | x :: xs, i, 0, h => by
    simp at h
    subst h
    rw [flds, flds, List.set_cons_zero]
    congr 1
    · simp [fv]
    · exact flds_far xs (i + 1) (by omega)
  | x :: xs, i, j + 1, h => by
    rw [flds, flds, List.set_cons_succ, flds_setI xs (i + 1) j (by simpa using h)]
    congr 1
    · cases x with
      | none =>
        have h9 : ¬ ((i : Int) = ((i + (j + 1) : Nat) : Int)) := by omega
        simp only [fv]
        rw [if_neg h9]
      | some y => cases y <;> rfl
    · congr 1
      funext q
      have : ((i + 1 + j : Nat) : Int) = ((i + (j + 1) : Nat) : Int) := by omega
      rw [this]
where
  flds_far {f : Int → Int} {v : Int} {n : Nat} : ∀ (fs : List (Option (Option Nat))) (i : Nat), n < i → flds G f i fs = flds G (fun q => if q = (n : Int) then v else f q) i fs
    | [], i, _ => rfl
    | x :: xs, i, h => by
      rw [flds, flds, ← flds_far xs (i + 1) (by omega)]
      congr 1
      cases x with
      | none =>
        have h9 : ¬ ((i : Int) = (n : Int)) := by omega
        simp only [fv]
        rw [if_neg h9]
      | some y => cases y <;> rfl
theorem flds_setR {f : Int → Int} {y : Option Nat} {w : Value} (hw : fv G f 0 (some y) = w) : ∀ (fs : List (Option (Option Nat))) (i j : Nat), j < fs.length → (flds G f i fs).set j w = flds G f i (fs.set j (some y))
  | [], i, j, h => by simp at h
  | x :: xs, i, 0, h => by
    rw [flds, List.set_cons_zero, List.set_cons_zero, flds]
    congr 1
    rw [← hw]
    cases y <;> rfl
  | x :: xs, i, j + 1, h => by
    rw [flds, List.set_cons_succ, List.set_cons_succ, flds, flds_setR hw xs (i + 1) j (by simpa using h)]
theorem WP.put {H H' : Heap} {k : Nat} {L : xLay} {μ' : xMem} (hP : WP G lay μ H) (hL : lay[k]? = some L) (hμ : ∀ k', k' ≠ k → μ' k' = μ k') (hnew : va_at G.2.1 vwCl (G.1 + k, rd G (μ' k) L) H') (oq : ∀ q, q ≠ G.1 + k → H'[q]? = H[q]?) : WP G lay μ' H' := by
  intro k' L' hk
  by_cases e : k' = k
  · subst e
    cases Option.some.inj (hL.symm.trans hk)
    exact hnew
  · have h := hP k' L' hk
    rw [← hμ k' e] at h
    exact h.kept (oq _ (fun q => e (by simp only at q; omega)))
theorem WP.relay {H H' : Heap} {k : Nat} {L' : xLay} (hP : WP G lay μ H) (hk : k < lay.length) (hnew : va_at G.2.1 vwCl (G.1 + k, rd G (μ k) L') H') (oq : ∀ q, q ≠ G.1 + k → H'[q]? = H[q]?) : WP G (lay.set k L') μ H' := by
  intro k' L2 h2
  rw [List.getElem?_set] at h2
  by_cases e : k = k'
  · subst e
    rw [if_pos rfl, if_pos hk] at h2
    cases h2
    exact hnew
  · rw [if_neg e] at h2
    exact (hP k' L2 h2).kept (oq _ (fun q => e (by simp only at q; omega)))
theorem st2_ne {k k' : Nat} {i v : Int} (h : k' ≠ k) : st2 μ k i v k' = μ k' := by
  funext q
  simp [st2, h]
theorem st2_self {k : Nat} {i v : Int} : st2 μ k i v k = fun q => if q = i then v else μ k q := by
  funext q
  simp [st2]
/-- a field by its place in the pool of the class own -/
def xFl (own : String) (index ci j : Nat) : Prop := ∃ (C : String) (T : u_T) (N : Nat), vwCl[ci]? = some (C, T, N) ∧ j < N ∧ (∀ w ∈ u_ws C T N, w ∈ xTs) ∧
  (Cond.fieldLink own index (T j).1 (T j).2.1 (T j).2.2.1 ∈ xTs ∨ ∃ host : String, Cond.fieldLinkNest own index (T j).1 (T j).2.1 (T j).2.2.1 host ∈ xTn)
/-- .. that is written -/
def xFp (own : String) (index ci j : Nat) (fin : Bool) (tj : FieldType) : Prop := ∃ (C : String) (T : u_T) (N : Nat) (ty : Nat → FieldType), vwCl[ci]? = some (C, T, N) ∧ j < N ∧ (∀ w ∈ u_ws C T N, w ∈ xTs) ∧
  (∀ k, k < N → parseFieldDescriptor (T k).2.2.1 = some (ty k)) ∧ (∀ a, a < N → ∀ b, b < N → a ≠ b → (T a).2.1 ≠ (T b).2.1) ∧ Cond.fieldLink own index (T j).1 (T j).2.1 (T j).2.2.1 ∈ xTs ∧ (T j).2.2.2 = fin ∧ ty j = tj ∧ (T j).1 = own
theorem xr_get {k ci j index : Nat} {fs : List (Option (Option Nat))} {fx : Option (Option Nat)} (hd : decode mt.2.1 pc = .ok (.getfield index, 3)) (hF : xFl mt.1.cls index ci j) (hL : lay[k]? = some (.inr (ci, fs))) (hv : fs[j]? = some fx)
    (K : RR G l d mc ms z mt Q (pc + 3) ll (fv G (μ k) j fx :: st) lay μ bc bs) : RR G l d mc ms z mt Q pc ll (xr G k :: st) lay μ bc bs := by
  intro p e s m args below meth c hC H locs cells slots ls hz hP hS h1 h2 hl
  obtain ⟨C, T, N, hc, hj, hin, hlk⟩ := hF
  have h0 := x_one (hP k _ hL)
  have K1 := K p e s m args below meth c hC H locs cells slots ls hz hP hS h1 h2 hl
  obtain ⟨hx, hb, -, -, hown, hts, -, -, hK, hN, -, -⟩ := hC
  have hg : (flds G (μ k) 0 fs)[j]? = some (fv G (μ k) j fx) := by rw [flds_get fs 0 j hv, Nat.zero_add]
  rcases hlk with hlk | ⟨host, hlk⟩
  · exact va_get hx hb hts hin hown hK h0 0 rfl hc j hj (hts _ hlk) (fun _ h => h) hg hd K1
  · exact va_getN hx hb hts hin hown hK h0 0 rfl hc j hj (va_Nw.use rfl (hN _ hlk)) (fun _ h => h) hg hd K1
theorem xr_getI {k ci j index : Nat} {J : Int} {fs : List (Option (Option Nat))} (hd : decode mt.2.1 pc = .ok (.getfield index, 3)) (hF : xFl mt.1.cls index ci j) (hL : lay[k]? = some (.inr (ci, fs))) (hv : fs[j]? = some none) (hJ : (j : Int) = J)
    (K : RR G l d mc ms z mt Q (pc + 3) ll (xi (μ k J) :: st) lay μ bc bs) : RR G l d mc ms z mt Q pc ll (xr G k :: st) lay μ bc bs := by
  subst hJ
  exact xr_get hd hF hL hv K
theorem xr_getR {k r ci j index : Nat} {fs : List (Option (Option Nat))} (hd : decode mt.2.1 pc = .ok (.getfield index, 3)) (hF : xFl mt.1.cls index ci j) (hL : lay[k]? = some (.inr (ci, fs))) (hv : fs[j]? = some (some (some r)))
    (K : RR G l d mc ms z mt Q (pc + 3) ll (xr G r :: st) lay μ bc bs) : RR G l d mc ms z mt Q pc ll (xr G k :: st) lay μ bc bs := xr_get hd hF hL hv K
theorem x_nz {x : Int} (h : x = 0 ∨ x = 1) : narrow .boolean (.int (Int32.ofInt x)) = .int (Int32.ofInt x) ∧ fits .boolean (.int (Int32.ofInt x)) = true := by
  rcases h with rfl | rfl <;> exact ⟨rfl, rfl⟩
theorem xr_putI {k ci j index : Nat} {J x : Int} {fs : List (Option (Option Nat))} {tj : FieldType} (hd : decode mt.2.1 pc = .ok (.putfield index, 3)) (hF : xFp mt.1.cls index ci j false tj) (hL : lay[k]? = some (.inr (ci, fs))) (hv : fs[j]? = some none) (hJ : (j : Int) = J) (hn : narrow tj (.int (Int32.ofInt x)) = .int (Int32.ofInt x) ∧ fits tj (.int (Int32.ofInt x)) = true)
    (K : RR G l d mc ms z mt Q (pc + 3) ll st lay (st2 μ k J x) bc bs) : RR G l d mc ms z mt Q pc ll (xi x :: xr G k :: st) lay μ bc bs := by
  subst hJ
  intro p e s m args below meth c hC H locs cells slots ls hz hP hS h1 h2 hl
  have hC0 := hC
  obtain ⟨hx, hb, -, -, hown, hts, -, -, hK, hN, -, hB⟩ := hC
  obtain ⟨C, T, N, ty, hc, hj, hin, hty, hnm, hlk, hfin, htj, hdecl⟩ := hF
  have hap := va_apart (own := mt.1.cls) hts hin ty hty hnm hK hc
  obtain ⟨r, g1, cell, q1, q2, q3, q4⟩ := hP k _ hL
  have hr : r = (C, T, N) := Option.some.inj (g1.symm.trans hc)
  subst hr
  obtain ⟨hS9, hfc, kC, hkC, hkind⟩ := hK.1 ci _ hc
  obtain ⟨cf, kf, fi, f, hi, hsl⟩ := hS9 j hj
  have hlay := hts _ (hin _ (u_in_lay hj))
  unfold u_lay at hlay
  rw [if_neg (by rw [hfin]; decide)] at hlay
  have hst := (u_facts hfc hkC (u_lays hts hin hj) hi).1
  have h6 := u_store hfc hkC hkind hlay hi (hty j hj) (by rw [htj]; exact hn.1) (by rw [htj]; exact hn.2)
  refine W.putK hx hb (f := f) ⟨hown, hts _ hlk, ⟨_, _, _, hi⟩, hst⟩ (by rw [q2]; exact h6) q1 q3 (by rw [hsl]; exact k2_hasslot (q4 j hj)) rfl rfl hd fun H' e1 e2 e3 => ?_
  rw [hsl] at e1 ⊢
  have hlen : j < (flds G (μ k) 0 fs).length := by rw [flds_len]; exact (List.getElem?_eq_some_iff.mp hv).1
  refine K p e s m args below meth c hC0 H' _ cells slots ls (by rw [e2]; exact hz) ?_ (hS.put e2 e3 (Nat.le_add_right _ _)) h1 h2 hl
  refine WP.put hP hL (fun k' h => st2_ne h) ⟨_, hc, ?_⟩ e3
  have hset : (flds G (μ k) 0 fs).set j (xi x) = flds G (st2 μ k (j : Int) x k) 0 fs := by
    rw [flds_setI fs 0 j hv, st2_self, Nat.zero_add]
  show t_OB _ _ _ _ _ (vp_V (flds G (st2 μ k (j : Int) x k) 0 fs))
  rw [← hset]
  exact t_OB.to (V := updV (vp_V (flds G (μ k) 0 fs)) j (xi x)) ⟨_, e1, q2, q3, t_set q4 hap hj (xi x)⟩ (fun i _ => vp_updV_set hlen (xi x) i)
theorem x_in {i : Int} {n : Nat} (h : 0 ≤ i ∧ i < (n : Int)) (hn : n < 2147483648) : vp_in (Int32.ofInt i) n ∧ (Int32.ofInt i).toNatClampNeg = i.toNat := by
  have h9 : (Int32.ofInt i).toInt = i := x_ti (by omega)
  refine ⟨vp_in_iff.mpr (by rw [h9]; exact h), ?_⟩
  rw [Int32.toNatClampNeg, h9]
theorem xr_iaload {k n : Nat} {N i : Int} (hd : decode mt.2.1 pc = .ok (.iaload, 1)) (hL : lay[k]? = some (.inl (0, n))) (hN : (n : Int) = N) (hn : n < 2147483648) (hi : 0 ≤ i ∧ i < N)
    (K : RR G l d mc ms z mt Q (pc + 1) ll (xi (μ k i) :: st) lay μ bc bs) : RR G l d mc ms z mt Q pc ll (xi i :: xr G k :: st) lay μ bc bs := by
  subst hN
  intro p e s m args below meth c hC H locs cells slots ls hz hP hS h1 h2 hl
  obtain ⟨a1, a2⟩ := x_in hi hn
  have K1 := K p e s m args below meth c hC H locs cells slots ls hz hP hS h1 h2 hl
  refine va_iald hC.1 hC.2.1 hC.2.2.2.2.2.2.2.2.1 (x_one (hP k _ hL)) 0 0 rfl rfl a1 hd ?_
  rw [a2, Int.toNat_of_nonneg hi.1]
  exact K1
theorem xr_baload {k n : Nat} {N i : Int} (hd : decode mt.2.1 pc = .ok (.baload, 1)) (hL : lay[k]? = some (.inl (1, n))) (hN : (n : Int) = N) (hn : n < 2147483648) (hi : 0 ≤ i ∧ i < N)
    (K : RR G l d mc ms z mt Q (pc + 1) ll (xi (μ k i) :: st) lay μ bc bs) : RR G l d mc ms z mt Q pc ll (xi i :: xr G k :: st) lay μ bc bs := by
  subst hN
  intro p e s m args below meth c hC H locs cells slots ls hz hP hS h1 h2 hl
  obtain ⟨a1, a2⟩ := x_in hi hn
  have K1 := K p e s m args below meth c hC H locs cells slots ls hz hP hS h1 h2 hl
  refine va_bald hC.1 hC.2.1 hC.2.2.2.2.2.2.2.2.1 (x_one (hP k _ hL)) 0 1 rfl rfl a1 hd ?_
  rw [a2, Int.toNat_of_nonneg hi.1]
  exact K1
theorem xr_zaload {k n : Nat} {N i : Int} (hd : decode mt.2.1 pc = .ok (.baload, 1)) (hL : lay[k]? = some (.inl (2, n))) (hN : (n : Int) = N) (hn : n < 2147483648) (hi : 0 ≤ i ∧ i < N)
    (K : RR G l d mc ms z mt Q (pc + 1) ll (xi (μ k i) :: st) lay μ bc bs) : RR G l d mc ms z mt Q pc ll (xi i :: xr G k :: st) lay μ bc bs := by
  subst hN
  intro p e s m args below meth c hC H locs cells slots ls hz hP hS h1 h2 hl
  obtain ⟨a1, a2⟩ := x_in hi hn
  have K1 := K p e s m args below meth c hC H locs cells slots ls hz hP hS h1 h2 hl
  refine va_zald hC.1 hC.2.1 hC.2.2.2.2.2.2.2.2.1 (x_one (hP k _ hL)) 0 2 rfl rfl a1 hd ?_
  rw [a2, Int.toNat_of_nonneg hi.1]
  exact K1
theorem xr_laload {k n : Nat} {N i : Int} (hd : decode mt.2.1 pc = .ok (.laload, 1)) (hL : lay[k]? = some (.inl (3, n))) (hN : (n : Int) = N) (hn : n < 2147483648) (hi : 0 ≤ i ∧ i < N)
    (K : RR G l d mc ms z mt Q (pc + 1) ll (xl (μ k i) :: st) lay μ bc bs) : RR G l d mc ms z mt Q pc ll (xi i :: xr G k :: st) lay μ bc bs := by
  subst hN
  intro p e s m args below meth c hC H locs cells slots ls hz hP hS h1 h2 hl
  obtain ⟨a1, a2⟩ := x_in hi hn
  have K1 := K p e s m args below meth c hC H locs cells slots ls hz hP hS h1 h2 hl
  refine va_lald hC.1 hC.2.1 hC.2.2.2.2.2.2.2.2.1 (x_one (hP k _ hL)) 0 3 rfl rfl a1 hd ?_
  rw [a2, Int.toNat_of_nonneg hi.1]
  exact K1
theorem xr_alen {k t n : Nat} {N : Int} (hd : decode mt.2.1 pc = .ok (.arraylength, 1)) (hL : lay[k]? = some (.inl (t, n))) (ht : t < 4) (hN : (n : Int) = N)
    (K : RR G l d mc ms z mt Q (pc + 1) ll (xi N :: st) lay μ bc bs) : RR G l d mc ms z mt Q pc ll (xr G k :: st) lay μ bc bs := by
  subst hN
  intro p e s m args below meth c hC H locs cells slots ls hz hP hS h1 h2 hl
  have K1 := K p e s m args below meth c hC H locs cells slots ls hz hP hS h1 h2 hl
  have hx : Int32.ofNat n = Int32.ofInt (n : Int) := (Int32.ofInt_eq_ofNat).symm
  have h0 := x_one (hP k _ hL)
  match t, ht with
  | 0, _ => exact va_alen hC.1 hC.2.1 hC.2.2.2.2.2.2.2.2.1 h0 0 0 rfl rfl hx hd K1
  | 1, _ => exact va_alen hC.1 hC.2.1 hC.2.2.2.2.2.2.2.2.1 h0 0 1 rfl rfl hx hd K1
  | 2, _ => exact va_alen hC.1 hC.2.1 hC.2.2.2.2.2.2.2.2.1 h0 0 2 rfl rfl hx hd K1
  | 3, _ => exact va_alen hC.1 hC.2.1 hC.2.2.2.2.2.2.2.2.1 h0 0 3 rfl rfl hx hd K1
theorem x_wr {cA : ClassId} {n : Nat} {f : Int → Int} {i x : Int} {y : Int32} (hi : 0 ≤ i) (hy : y = Int32.ofInt x) : (arrV cA n (fun j => Value.int (Int32.ofInt (f j)))).setSlot i.toNat (.int y) = arrV cA n (fun j => Value.int (Int32.ofInt (if (j : Int) = i then x else f j))) := by
  rw [arrV_store, hy]
  congr 1
  funext q
  by_cases hq : q = i.toNat
  · have h9 : (q : Int) = i := by omega
    rw [if_pos h9]
    simp [updV, hq]
  · have h9 : ¬ (q : Int) = i := by omega
    simp [updV, hq, h9]
theorem xr_iastore {k n : Nat} {N i x : Int} (hd : decode mt.2.1 pc = .ok (.iastore, 1)) (hL : lay[k]? = some (.inl (0, n))) (hN : (n : Int) = N) (hn : n < 2147483648) (hi : 0 ≤ i ∧ i < N)
    (K : RR G l d mc ms z mt Q (pc + 1) ll st lay (st2 μ k i x) bc bs) : RR G l d mc ms z mt Q pc ll (xi x :: xi i :: xr G k :: st) lay μ bc bs := by
  subst hN
  intro p e s m args below meth c hC H locs cells slots ls hz hP hS h1 h2 hl
  obtain ⟨a1, a2⟩ := x_in hi hn
  have h0 : H[G.1 + k]? = some (arrV (G.2.2.1 0) n (fun j => Value.int (Int32.ofInt (μ k j)))) := hP k _ hL
  refine W.iast hC.1 hC.2.1 h0 ((hC.2.2.2.2.2.2.2.2.1.2 0 _ rfl).1 n _) (fun q => by cases q) (by rw [arrV_size]; exact a1) rfl rfl hd fun H1 e1 z1 oq => ?_
  rw [a2] at e1 ⊢
  refine K p e s m args below meth c hC H1 _ cells slots ls (by rw [z1]; exact hz) (WP.put hP hL (fun k' h => st2_ne h) ?_ oq) (hS.put z1 oq (Nat.le_add_right _ _)) h1 h2 hl
  show H1[G.1 + k]? = some (arrV (G.2.2.1 0) n (fun j => Value.int (Int32.ofInt (st2 μ k i x k j))))
  rw [e1, st2_self, x_wr hi.1 rfl]
theorem xr_bastore {k n : Nat} {N i x : Int} (hd : decode mt.2.1 pc = .ok (.bastore, 1)) (hL : lay[k]? = some (.inl (1, n))) (hN : (n : Int) = N) (hn : n < 2147483648) (hi : 0 ≤ i ∧ i < N)
    (K : RR G l d mc ms z mt Q (pc + 1) ll st lay (st2 μ k i (j8 x)) bc bs) : RR G l d mc ms z mt Q pc ll (xi x :: xi i :: xr G k :: st) lay μ bc bs := by
  subst hN
  intro p e s m args below meth c hC H locs cells slots ls hz hP hS h1 h2 hl
  obtain ⟨a1, a2⟩ := x_in hi hn
  have h0 : H[G.1 + k]? = some (arrV (G.2.2.1 1) n (fun j => Value.int (Int32.ofInt (μ k j)))) := hP k _ hL
  refine W.bast hC.1 hC.2.1 h0 ((hC.2.2.2.2.2.2.2.2.1.2 1 _ rfl).1 n _) (fun q => by cases q) (by rw [arrV_size]; exact a1) rfl rfl hd fun H1 e1 z1 oq => ?_
  rw [a2] at e1 ⊢
  refine K p e s m args below meth c hC H1 _ cells slots ls (by rw [z1]; exact hz) (WP.put hP hL (fun k' h => st2_ne h) ?_ oq) (hS.put z1 oq (Nat.le_add_right _ _)) h1 h2 hl
  show H1[G.1 + k]? = some (arrV (G.2.2.1 1) n (fun j => Value.int (Int32.ofInt (st2 μ k i (j8 x) k j))))
  rw [e1, st2_self, ← x_wr hi.1 (x_i2b x)]
  rfl
theorem xr_zastore {k n : Nat} {N i x : Int} (hd : decode mt.2.1 pc = .ok (.bastore, 1)) (hL : lay[k]? = some (.inl (2, n))) (hN : (n : Int) = N) (hn : n < 2147483648) (hi : 0 ≤ i ∧ i < N) (hx : x = 0 ∨ x = 1)
    (K : RR G l d mc ms z mt Q (pc + 1) ll st lay (st2 μ k i x) bc bs) : RR G l d mc ms z mt Q pc ll (xi x :: xi i :: xr G k :: st) lay μ bc bs := by
  subst hN
  intro p e s m args below meth c hC H locs cells slots ls hz hP hS h1 h2 hl
  obtain ⟨a1, a2⟩ := x_in hi hn
  have h0 : H[G.1 + k]? = some (arrV (G.2.2.1 2) n (fun j => Value.int (Int32.ofInt (μ k j)))) := hP k _ hL
  refine W.zast hC.1 hC.2.1 h0 ((hC.2.2.2.2.2.2.2.2.1.2 2 _ rfl).1 n _) (fun q => by cases q) (by rw [arrV_size]; exact a1) rfl rfl hd fun H1 e1 z1 oq => ?_
  rw [a2, (x_nz hx).1] at e1
  rw [a2]
  refine K p e s m args below meth c hC H1 _ cells slots ls (by rw [z1]; exact hz) (WP.put hP hL (fun k' h => st2_ne h) ?_ oq) (hS.put z1 oq (Nat.le_add_right _ _)) h1 h2 hl
  show H1[G.1 + k]? = some (arrV (G.2.2.1 2) n (fun j => Value.int (Int32.ofInt (st2 μ k i x k j))))
  rw [e1, st2_self, x_wr hi.1 rfl]
theorem x_wrL {cA : ClassId} {n : Nat} {f : Int → Int} {i x : Int} (hi : 0 ≤ i) : (arrV cA n (fun j => Value.long (Int64.ofInt (f j)))).setSlot i.toNat (.long (Int64.ofInt x)) = arrV cA n (fun j => Value.long (Int64.ofInt (if (j : Int) = i then x else f j))) := by
  rw [arrV_store]
  congr 1
  funext q
  by_cases hq : q = i.toNat
  · have h9 : (q : Int) = i := by omega
    rw [if_pos h9]
    simp [updV, hq]
  · have h9 : ¬ (q : Int) = i := by omega
    simp [updV, hq, h9]
theorem xr_lastore {k n : Nat} {N i x : Int} (hd : decode mt.2.1 pc = .ok (.lastore, 1)) (hL : lay[k]? = some (.inl (3, n))) (hN : (n : Int) = N) (hn : n < 2147483648) (hi : 0 ≤ i ∧ i < N)
    (K : RR G l d mc ms z mt Q (pc + 1) ll st lay (st2 μ k i x) bc bs) : RR G l d mc ms z mt Q pc ll (xl x :: xi i :: xr G k :: st) lay μ bc bs := by
  subst hN
  intro p e s m args below meth c hC H locs cells slots ls hz hP hS h1 h2 hl
  obtain ⟨a1, a2⟩ := x_in hi hn
  have h0 : H[G.1 + k]? = some (arrV (G.2.2.1 3) n (fun j => Value.long (Int64.ofInt (μ k j)))) := hP k _ hL
  refine W.last hC.1 hC.2.1 h0 ((hC.2.2.2.2.2.2.2.2.1.2 3 _ rfl).1 n _) (fun q => by cases q) (by rw [arrV_size]; exact a1) rfl rfl hd fun H1 e1 z1 oq => ?_
  rw [a2] at e1 ⊢
  refine K p e s m args below meth c hC H1 _ cells slots ls (by rw [z1]; exact hz) (WP.put hP hL (fun k' h => st2_ne h) ?_ oq) (hS.put z1 oq (Nat.le_add_right _ _)) h1 h2 hl
  show H1[G.1 + k]? = some (arrV (G.2.2.1 3) n (fun j => Value.long (Int64.ofInt (st2 μ k i x k j))))
  rw [e1, st2_self, x_wrL hi.1]
end HeapA
