section LibB
variable {G : xG} {l : Launch} {d mc ms pc bc bs : Nat} {z : Bool} {mt : xMT} {Q : Option Value → List xLay → xMem → Prop} {ll : xLL} {st : List Value} {lay : List xLay} {μ : xMem}
/-- System.arraycopy of longs -/
theorem xr_copyL {index ks kd ns nd : Nat} {sp dp n : Int} (hd : decode mt.2.1 pc = .ok (.invokestatic index, 3)) (hlink : Cond.methodLink mt.1.cls index arraycopyName ∈ xTs) (hnat : Cond.native arraycopyName ∈ xTs) (hstat : Cond.static arraycopyName ∈ xTs) (hini : Cond.initialized "java/lang/System" ∈ xTs) (hdd : 1 ≤ d) (hw : (st.map fun v => v.category).sum ≤ 8)
    (hLs : lay[ks]? = some (.inl (3, ns))) (hLd : lay[kd]? = some (.inl (3, nd))) (hns : ns < 2147483648) (hnd : nd < 2147483648) (h1' : 0 ≤ sp) (h2' : 0 ≤ dp) (h3' : 0 ≤ n) (h4' : sp + n ≤ (ns : Int)) (h5' : dp + n ≤ (nd : Int))
    (K : RR G l d mc ms z mt Q (pc + 3) ll st lay (cpy μ ks sp kd dp n) bc bs) (hz0 : z = false) : RR G l d mc ms z mt Q pc ll (xi n :: xi dp :: xr G kd :: xi sp :: xr G ks :: st) lay μ bc bs := by
  intro p e s m args below meth c hC H locs cells slots ls hz hP hS h1 h2 hl
  have hC0 := hC
  have hml := x_len0 hC hl
  obtain ⟨hx9, hb, -, -, hown, hts, -, -, hK, hN, hT, hB⟩ := hC
  obtain ⟨a1, a2⟩ := x_nn (i := sp) h1' (by omega)
  obtain ⟨b1, b2⟩ := x_nn (i := dp) h2' (by omega)
  obtain ⟨c1, c2⟩ := x_nn (i := n) h3' (by omega)
  have gs := wsL_get (G := G) (μ := μ) lay 0 ks
  have gd := wsL_get (G := G) (μ := μ) lay 0 kd
  rw [hLs, Nat.zero_add] at gs
  rw [hLd, Nat.zero_add] at gd
  refine va_copyl hx9 hb hml hown (hts _ hlink) (hts _ hnat) (hts _ hstat) (hts _ hini) hK (wsL_P hP) wsL_D hS ks kd 3 3 gs gd rfl rfl rfl a1 b1 c1 (by rw [a2, c2]; omega) (by rw [b2, c2]; omega) (fun i _ => rfl) hdd ?_ hd fun H1 locs1 hP1 hD1 hS1 => ?_
  · show _ + (nativeFrameWords "java/lang/System" "arraycopy" 5 + 11) ≤ 64 * d
    have hnw : nativeFrameWords "java/lang/System" "arraycopy" 5 ≤ 20 := by decide
    omega
  have hP2 : WP G lay (cpy μ ks sp kd dp n) H1 := by
    refine wsL_back hLd (fun k' h => by funext i; simp [cpy, h]) ?_ hP1
    rw [a2, b2, c2]
    congr 2
    refine Prod.ext rfl (Prod.ext rfl ?_)
    show Sum.inr (Sum.inl _) = Sum.inr (Sum.inl _)
    congr 2
    funext j
    simp only [va_cpy, cpy, true_and]
    by_cases hj : dp ≤ (j : Int) ∧ (j : Int) < dp + n
    · rw [if_pos hj, if_pos (by omega)]
      congr 2
      omega
    · rw [if_neg hj, if_neg (by omega)]
  refine K p e s m args below meth c hC0 H1 locs1 cells slots ls ⟨?_, fun h => by rw [hz0] at h; cases h⟩ hP2 hS1 h1 h2 hl
  rcases Nat.eq_zero_or_pos lay.length with h0 | h0
  · rw [h0]; exact Nat.le_trans hB hS1.1
  · have hlast := hP2 (lay.length - 1) (lay[lay.length - 1]'(by omega)) (List.getElem?_eq_getElem (by omega))
    have := hlast.lt
    simp only at this
    omega
end LibB
