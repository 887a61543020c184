/-! light -/
section Ops6
variable {G : xG} {l : Launch} {d : Nat} {μ ν α γ m : xMem} {P : Int → xMem → Prop} {PV' : xMem → Prop} {N : Int}
def cg (row col dn k : Int) : Int := if dn = 1 then 9 * (row + k) + col else 9 * row + col + k
theorem crs_symm {c o k k' : Int} (h : crs γ c o k k') : crs γ o c k' k := ⟨h.2.1, h.1, fun e => h.2.2.1 e.symm, h.2.2.2.2.1, h.2.2.2.1, h.2.2.2.2.2.symm⟩
def i53 (γ m : xMem) (c K : Int) : Prop := ∀ c' o', 0 ≤ c' → c' < 16 → 0 ≤ o' → o' < 16 → (m 53 (c' * 16 + o') = -1 ∧ ∀ k k', ¬ (crs γ c' o' k k' ∧ (c' = c → k < K) ∧ (o' = c → k' < K))) ∨ ∃ k', crs γ c' o' (m 53 (c' * 16 + o')) k' ∧ (c' = c → m 53 (c' * 16 + o') < K) ∧ (o' = c → k' < K)
theorem i53_no {c K : Int} (h : i53 γ m c K) (hn : ∀ o k', ¬ crs γ c o K k') : i53 γ m c (K + 1) := by
  intro c' o' c0 c1 o0 o1
  rcases h c' o' c0 c1 o0 o1 with ⟨q1, q2⟩ | ⟨k', q1, q2, q3⟩
  · refine Or.inl ⟨q1, fun k k' z => q2 k k' ⟨z.1, fun e => ?_, fun e => ?_⟩⟩
    · have := z.2.1 e
      rcases (show k < K ∨ k = K by omega) with y | y
      · exact y
      · subst e; subst y; exact absurd z.1 (hn o' k')
    · have := z.2.2 e
      rcases (show k' < K ∨ k' = K by omega) with y | y
      · exact y
      · subst e; subst y; exact absurd (crs_symm z.1) (hn c' k)
  · exact Or.inr ⟨k', q1, fun e => by have := q2 e; omega, fun e => by have := q3 e; omega⟩
theorem i53_yes {c o K k0 : Int} (h : i53 γ m c K) (hc : 0 ≤ c ∧ c < 16) (ho : 0 ≤ o ∧ o < 16) (hne : o ≠ c) (hx : crs γ c o K k0) (hu : ∀ o2 k2, crs γ c o2 K k2 → o2 = o) : i53 γ (st2 (st2 m 53 (c * 16 + o) K) 53 (o * 16 + c) k0) c (K + 1) := by
  intro c' o' c0 c1 o0 o1
  by_cases e1 : c' = o ∧ o' = c
  · obtain ⟨rfl, rfl⟩ := e1
    rw [st_s]
    exact Or.inr ⟨K, crs_symm hx, fun e => absurd e hne, fun _ => by omega⟩
  · by_cases e2 : c' = c ∧ o' = o
    · obtain ⟨rfl, rfl⟩ := e2
      rw [st_o _ _ _ _ _ (by omega), st_s]
      exact Or.inr ⟨k0, hx, fun _ => by omega, fun e => absurd e hne⟩
    · rw [st_o _ _ _ _ _ (by omega), st_o _ _ _ _ _ (by omega)]
      rcases h c' o' c0 c1 o0 o1 with ⟨q1, q2⟩ | ⟨k', q1, q2, q3⟩
      · refine Or.inl ⟨q1, fun k k' z => q2 k k' ⟨z.1, fun e => ?_, fun e => ?_⟩⟩
        · have := z.2.1 e
          rcases (show k < K ∨ k = K by omega) with y | y
          · exact y
          · subst e; subst y
            exact absurd ⟨rfl, hu o' k' z.1⟩ e2
        · have := z.2.2 e
          rcases (show k' < K ∨ k' = K by omega) with y | y
          · exact y
          · subst e; subst y
            exact absurd ⟨hu c' k (crs_symm z.1), rfl⟩ e1
      · exact Or.inr ⟨k', q1, fun e => by have := q2 e; omega, fun e => by have := q3 e; omega⟩
/-- the grid with the new light -/
def gam (μ : xMem) (c row col dn : Int) : xMem := st2 (st2 (st2 (st2 μ 117 c 1) 109 c row) 110 c col) 118 c dn
def oth (μ : xMem) (dn x : Int) : Int := if dn = 1 then μ 111 x else μ 112 x
def newL (μ : xMem) (c row col dn : Int) : Prop := (0 ≤ c ∧ c < 16) ∧ 0 < μ 89 c ∧ μ 117 c = 0 ∧ (0 ≤ row ∧ row ≤ 8 ∧ 0 ≤ col ∧ col ≤ 8) ∧ (if dn = 1 then row else col) + μ 89 c ≤ 9 ∧ ∀ k, 0 ≤ k → k < μ 89 c → (if dn = 1 then μ 112 (cg row col dn k) else μ 111 (cg row col dn k)) = 0
theorem cg_b {row col dn k len : Int} (h : 0 ≤ row ∧ row ≤ 8 ∧ 0 ≤ col ∧ col ≤ 8) (hl : (if dn = 1 then row else col) + len ≤ 9) (h0 : 0 ≤ k) (h1 : k < len) : 0 ≤ cg row col dn k ∧ cg row col dn k < 81 := by
  unfold cg
  split
  · rename_i e; rw [if_pos e] at hl; omega
  · rename_i e; rw [if_neg e] at hl; omega
theorem gam_lit {c row col dn o : Int} (hne : o ≠ c) : lit (gam μ c row col dn) o ↔ lit μ o := by
  unfold lit gam; simp [st2, hne]
theorem gam_cel {c row col dn o k : Int} (hne : o ≠ c) : cel (gam μ c row col dn) o k = cel μ o k := by
  unfold cel gam; simp [st2, hne]
theorem gam_celc {c row col dn k : Int} : cel (gam μ c row col dn) c k = cg row col dn k := by
  unfold cel gam cg; simp [st2]
theorem gam_dn {c row col dn o : Int} (hne : o ≠ c) : gam μ c row col dn 118 o = μ 118 o := by unfold gam; simp [st2, hne]
theorem gam_dnc {c row col dn : Int} : gam μ c row col dn 118 c = dn := by unfold gam; simp [st2]
theorem gam_89 {c row col dn : Int} : gam μ c row col dn 89 = μ 89 := by unfold gam; funext i; simp [st2]
theorem gam_crs {c row col dn c' o k k' : Int} (h1 : c' ≠ c) (h2 : o ≠ c) : crs (gam μ c row col dn) c' o k k' ↔ crs μ c' o k k' := by
  unfold crs
  rw [gam_lit h1, gam_lit h2, gam_dn h1, gam_dn h2, gam_89, gam_cel h1, gam_cel h2]
theorem crs_oth {c row col dn o K k' : Int} (hw : wfG μ) (hdn : dn = 0 ∨ dn = 1) (h : crs (gam μ c row col dn) c o K k') : o ≠ c ∧ lit μ o ∧ oth μ dn (cg row col dn K) = o + 1 := by
  obtain ⟨h1, h2, h3, h4, h5, h6⟩ := h
  have hne : o ≠ c := fun e => h3 (by rw [e])
  rw [gam_lit hne] at h2
  rw [gam_dnc, gam_dn hne] at h3
  rw [gam_89] at h5
  rw [gam_celc, gam_cel hne] at h6
  obtain ⟨q1, q2⟩ := hw.2.2.2 o k' h2 h5.1 h5.2
  have h01 := (hw.1 o h2.1 h2.2.1).2
  refine ⟨hne, h2, ?_⟩
  unfold oth
  rw [h6]
  split
  · exact q1 (by omega)
  · exact q2 (by omega)
theorem oth_crs {c row col dn K : Int} (hw : wfG μ) (hdn : dn = 0 ∨ dn = 1) (hn : newL μ c row col dn) (h0 : 0 ≤ K) (h1 : K < μ 89 c) (hp : 0 < oth μ dn (cg row col dn K)) : (0 ≤ oth μ dn (cg row col dn K) - 1 ∧ oth μ dn (cg row col dn K) - 1 < 16) ∧ lit μ (oth μ dn (cg row col dn K) - 1) ∧ oth μ dn (cg row col dn K) - 1 ≠ c ∧ ∃ k', crs (gam μ c row col dn) c (oth μ dn (cg row col dn K) - 1) K k' ∧ cel μ (oth μ dn (cg row col dn K) - 1) k' = cg row col dn K ∧ (0 ≤ k' ∧ k' < μ 89 (oth μ dn (cg row col dn K) - 1)) ∧ μ 118 (oth μ dn (cg row col dn K) - 1) = 1 - dn := by
  have hb := cg_b hn.2.2.2.1 hn.2.2.2.2.1 h0 h1
  obtain ⟨w1, w2, w3, w4⟩ := hw.2.2.1 _ hb.1 hb.2
  have main : ∀ o, lit μ o → μ 118 o = 1 - dn → (∃ k, 0 ≤ k ∧ k < μ 89 o ∧ cel μ o k = cg row col dn K) → (0 ≤ o ∧ o < 16) ∧ lit μ o ∧ o ≠ c ∧ ∃ k', crs (gam μ c row col dn) c o K k' ∧ cel μ o k' = cg row col dn K ∧ (0 ≤ k' ∧ k' < μ 89 o) ∧ μ 118 o = 1 - dn := by
    intro o lo do' ⟨k, k0, k1, k2⟩
    have hne : o ≠ c := fun e => by have := hn.2.2.1; have := lo.2.2; rw [e] at this; omega
    refine ⟨⟨lo.1, lo.2.1⟩, lo, hne, k, ⟨?_, (gam_lit hne).mpr lo, ?_, ⟨h0, by rw [gam_89]; exact h1⟩, ⟨k0, by rw [gam_89]; exact k1⟩, ?_⟩, k2, ⟨k0, k1⟩, do'⟩
    · exact ⟨hn.1.1, hn.1.2, by unfold gam; simp [st2]⟩
    · rw [gam_dnc, gam_dn hne]; omega
    · rw [gam_celc, gam_cel hne]; exact k2.symm
  unfold oth at hp ⊢
  rcases hdn with e | e
  · rw [if_neg (by omega)] at hp ⊢
    obtain ⟨q1, q2, q3⟩ := w4 hp
    exact main _ q1 (by omega) q3
  · rw [if_pos e] at hp ⊢
    obtain ⟨q1, q2, q3⟩ := w3 hp
    exact main _ q1 (by omega) q3
theorem s_cross {k3 : Nat} {c row col dn K : Int} (hk3 : LAY[k3]? = some (.inl (0, 81))) (hG : gG μ) (hdn : dn = 0 ∨ dn = 1) (hn : newL μ c row col dn) (h0 : 0 ≤ K) (h1 : K < μ 89 c) (e47 : ∀ i, m 47 i = if i = c then row * 9 + col else μ 47 i) (e48 : ∀ i, m 48 i = if i = c then (if dn = 1 then 9 else 1) else μ 48 i) (ek3 : ∀ x, 0 ≤ x → x < 81 → m k3 x = oth μ dn x - 1) (hi : i53 (gam μ c row col dn) m c K) (h : ∀ m', FrX [53] [] m m' → i53 (gam μ c row col dn) m' c (K + 1) → PV' m') : CV G l (d + 2) mX2_cross [xr G 46, xi c, xi K, xr G k3] m PV' := by
  have hb := cg_b hn.2.2.2.1 hn.2.2.2.2.1 h0 h1
  have hc := hn.1
  have hcl : m 47 c + K * m 48 c = cg row col dn K := by
    rw [e47, if_pos rfl, e48, if_pos rfl]
    unfold cg
    split <;> omega
  obtain ⟨w1, w2, -, -⟩ := hG.1.2.2.1 _ hb.1 hb.2
  have ob : 0 ≤ oth μ dn (cg row col dn K) ∧ oth μ dn (cg row col dn K) ≤ 16 := by unfold oth; split <;> omega
  apply E_X2_cross hk3 (by decide)
  apply E_X2_cellOf
  rw [hcl, ek3 _ hb.1 hb.2]
  refine ⟨hc, by omega, ⟨hb.1, hb.2⟩, by omega, fun z => h m FrX.rf (i53_no hi (fun o k' q => ?_)), fun z => ?_⟩
  · have q3 := crs_oth hG.1 hdn q
    have q4 := q3.2.1.1
    omega
  · obtain ⟨o1, o2, o3, k', o4, o5, o6, o7⟩ := oth_crs hG.1 hdn hn h0 h1 (by omega)
    have hu : ∀ o2 k2, crs (gam μ c row col dn) c o2 K k2 → o2 = oth μ dn (cg row col dn K) - 1 := fun o2 k2 q => by have := crs_oth hG.1 hdn q; omega
    generalize oth μ dn (cg row col dn K) - 1 = o at *
    obtain ⟨r1, r2⟩ := hG.2.1.2.1 o o2
    have e48o : m 48 o = if dn = 1 then 1 else 9 := by
      rw [e48, if_neg o3, r2, o7]
      rcases hdn with e | e <;> subst e <;> decide
    have e47o : m 47 o = 9 * μ 109 o + μ 110 o := by rw [e47, if_neg o3, r1]
    have ecel : cg row col dn K - m 47 o = k' * m 48 o := by
      rw [← o5, e47o, e48o]
      unfold cel
      rw [o7]
      rcases hdn with e | e <;> subst e <;> simp <;> omega
    have e48p : m 48 o = 1 ∨ m 48 o = 9 := by rw [e48o]; split <;> omega
    have lo := (hG.1.2.1 o o2).2.2.1
    have kb : 0 ≤ k' * m 48 o ∧ k' * m 48 o ≤ 81 ∧ k' * m 48 o / m 48 o = k' := by
      rcases e48p with e | e <;> rw [e] <;> omega
    rw [ecel]
    refine ⟨o1, by omega, fun q => by omega, fun _ => ⟨by omega, by omega, by omega, by omega, ?_⟩⟩
    rw [kb.2.2]
    exact h _ (((FrX.sa (k := 53)).tr (FrX.sa (k := 53))).sub (by decide) (by decide)) (i53_yes hi hc o1 o3 o4 hu)
/-- what the class changes when it takes a light -/
def xdL (μ m : xMem) (c row col dn : Int) : Prop := FrX [47, 48, 49, 50, 51, 53] [(46, 9), (46, 10)] μ m ∧ (∀ i, m 47 i = if i = c then row * 9 + col else μ 47 i) ∧ (∀ i, m 48 i = if i = c then (if dn = 1 then 9 else 1) else μ 48 i) ∧ (∀ i, m 49 i = if i = c then μ 89 c else μ 49 i) ∧ m 46 9 = μ 46 9 + 1 ∧ m 46 10 = μ 46 10 + μ 89 c ∧
  (∀ x, (m 50 x = c ∧ dn = 0 ∧ ∃ k, 0 ≤ k ∧ k < μ 89 c ∧ x = cg row col dn k) ∨ (m 50 x = μ 50 x ∧ (dn = 0 → ∀ k, 0 ≤ k → k < μ 89 c → x ≠ cg row col dn k))) ∧ (∀ x, (m 51 x = c ∧ dn = 1 ∧ ∃ k, 0 ≤ k ∧ k < μ 89 c ∧ x = cg row col dn k) ∨ (m 51 x = μ 51 x ∧ (dn = 1 → ∀ k, 0 ≤ k → k < μ 89 c → x ≠ cg row col dn k))) ∧ i53 (gam μ c row col dn) m c (μ 89 c)

theorem s_addL0 {c row col : Int} (hG : gG μ) (hC : gC μ) (hc : 0 ≤ c ∧ c < 16) (hpos : 0 < μ 89 c) (hnl : μ 117 c = 0) (hcell : 0 ≤ row ∧ row ≤ 8 ∧ 0 ≤ col ∧ col ≤ 8) (hfit : (if (0 : Int) = 1 then row else col) + μ 89 c ≤ 9) (h1 : ¬ newL μ c row col 0 → P 0 μ) (h2 : newL μ c row col 0 → ∀ m, xdL μ m c row col 0 → P 1 m) : K_X2_addLight_79 G l (d + 3) P c 0 (μ 89 c) ((row * 9) + col) 1 0 μ := by
  have hlen := (hC.2.2.2.2.2.1 c hc.1 hc.2).2
  have hcg : ∀ k, (row * 9) + col + k * 1 = cg row col 0 k := fun k => by unfold cg; simp; omega
  have r3 := hG.2.1.2.2.1
  have w3 := hG.1.2.2.1
  -- the marks
  have k157 : newL μ c row col 0 → ∀ (j : Nat) (v : Int) (m : xMem), v + j = μ 89 c → 0 ≤ v → FrX [47, 48, 49, 50, 53] [(46, 9), (46, 10)] μ m → (∀ i, m 47 i = if i = c then row * 9 + col else μ 47 i) → (∀ i, m 48 i = if i = c then (if (0 : Int) = 1 then 9 else 1) else μ 48 i) → (∀ i, m 49 i = if i = c then μ 89 c else μ 49 i) → m 46 9 = μ 46 9 + 1 → m 46 10 = μ 46 10 + μ 89 c → (∀ x, (m 50 x = c ∧ ∃ k, 0 ≤ k ∧ k < v ∧ x = cg row col 0 k) ∨ (m 50 x = μ 50 x ∧ ∀ k, 0 ≤ k → k < v → x ≠ cg row col 0 k)) → i53 (gam μ c row col 0) m c v → K_X2_addLight_157 G l (d + 3) P c 0 (μ 89 c) ((row * 9) + col) 1 v m := by
    intro nw j
    induction j with
    | zero =>
      intro v m hv v0 fm e47 e48 e49 e9 e10 ea hi
      apply B_X2_addLight_157
      refine ⟨by omega, by omega, fun _ => h2 nw m ⟨fm.sub (by decide) (by decide), e47, e48, e49, e9, e10, ?_, ?_, ?_⟩, fun z => by omega⟩
      · intro x
        rcases ea x with ⟨q, k, k0, k1, k2⟩ | ⟨q, q2⟩; exact Or.inl ⟨q, rfl, k, k0, by omega, k2⟩; exact Or.inr ⟨q, fun _ k k0 k1 => q2 k k0 (by omega)⟩
      · intro x
        exact Or.inr ⟨by rw [fm.k 51 (by decide)], fun e => absurd e (by decide)⟩
      · rw [show μ 89 c = v by omega]; exact hi
    | succ j ih =>
      intro v m hv v0 fm e47 e48 e49 e9 e10 ea hi
      have hb := cg_b (k := v) hcell hfit v0 (by omega)
      apply B_X2_addLight_157
      rw [hcg v]
      have fm1 : FrX [50] [] m (st2 m 50 (cg row col 0 v) c) := FrX.sa
      have hi1 : i53 (gam μ c row col 0) (st2 m 50 (cg row col 0 v) c) c v := by
        unfold i53
        rw [st_f _ _ _ _ _ (by decide)]
        exact hi
      have go : CV G l (d + 2) mX2_cross [xr G 46, xi c, xi v, xr G 51] (st2 m 50 (cg row col 0 v) c) (fun m10 => K_X2_addLight_157 G l (d + 3) P c 0 (μ 89 c) ((row * 9) + col) 1 (v + 1) m10) := by
        refine s_cross (k3 := 51) (μ := μ) (dn := 0) rfl hG (by omega) nw v0 (by omega) (fun i => by rw [st_n _ _ _ _ _ _ (by decide)]; exact e47 i) (fun i => by rw [st_n _ _ _ _ _ _ (by decide)]; exact e48 i) (fun x x0 x1 => ?_) hi1 (fun m' f' hi' => ih (v + 1) m' (by omega) (by omega) ((fm.tr (fm1.tr f')).sub (by decide) (by decide)) (fun i => ?_) (fun i => ?_) (fun i => ?_) ?_ ?_ (fun x => ?_) hi')
        · rw [st_n _ _ _ _ _ _ (by decide), fm.k 51 (by decide)]
          have := r3 x x0 x1
          unfold oth
          simp
          omega
        · rw [f'.k 47 (by decide), st_n _ _ _ _ _ _ (by decide)]; exact e47 i
        · rw [f'.k 48 (by decide), st_n _ _ _ _ _ _ (by decide)]; exact e48 i
        · rw [f'.k 49 (by decide), st_n _ _ _ _ _ _ (by decide)]; exact e49 i
        · rw [f'.f 46 9 (by decide), st_n _ _ _ _ _ _ (by decide)]; exact e9
        · rw [f'.f 46 10 (by decide), st_n _ _ _ _ _ _ (by decide)]; exact e10
        · rw [f'.k 50 (by decide), st_i]
          by_cases c1 : x = cg row col 0 v
          · rw [if_pos c1]; exact Or.inl ⟨rfl, v, v0, by omega, c1⟩
          · rw [if_neg c1]
            rcases ea x with ⟨q, k, k0, k1, k2⟩ | ⟨q, q2⟩
            · exact Or.inl ⟨q, k, k0, by omega, k2⟩
            · refine Or.inr ⟨q, fun k k0 k1 => ?_⟩
              rcases (show k < v ∨ k = v by omega) with y | y
              · exact q2 k k0 y
              · rw [y]; exact c1
      refine ⟨by omega, by omega, fun z => by omega, fun _ => ⟨by omega, by decide, fun z => ?_, fun z => ?_⟩⟩
      · exact go
      · exact absurd rfl z
  -- the check
  have k79 : ∀ (j : Nat) (v : Int), v + j = μ 89 c → 0 ≤ v → (∀ k, 0 ≤ k → k < v → μ 111 (cg row col 0 k) = 0) → K_X2_addLight_79 G l (d + 3) P c 0 (μ 89 c) ((row * 9) + col) 1 v μ := by
    intro j
    induction j with
    | zero =>
      intro v hv v0 hi
      have nw : newL μ c row col 0 := ⟨hc, hpos, hnl, hcell, hfit, fun k k0 k1 => by rw [if_neg (by decide)]; exact hi k k0 (by omega)⟩
      apply B_X2_addLight_79
      refine ⟨by omega, by omega, fun _ => ⟨hc, k157 nw (μ 89 c).toNat 0 _ (by omega) (by omega) ?_ (fun i => ?_) (fun i => ?_) (fun i => ?_) ?_ ?_ (fun x => ?_) ?_⟩, fun z => by omega⟩
      · exact ((FrX.sa (k := 47)).tr ((FrX.sa (k := 48)).tr ((FrX.sa (k := 49)).tr ((FrX.st (k := 46) (i := 9)).tr (FrX.st (k := 46) (i := 10)))))).sub (by decide) (by decide)
      · simp [st2]
      · simp [st2]
      · simp [st2]
      · simp [st2]
      · simp [st2]
      · exact Or.inr ⟨by simp [st2], fun k k0 k1 => by omega⟩
      · intro c' o' c0 c1 o0 o1
        have e53 : (st2 (st2 (st2 (st2 (st2 μ 47 c ((row * 9) + col)) 48 c 1) 49 c (μ 89 c)) 46 9 ((μ 46 9) + 1)) 46 10 ((μ 46 10) + μ 89 c)) 53 (c' * 16 + o') = μ 53 (c' * 16 + o') := by simp [st2]
        rw [e53]
        rcases hG.2.1.2.2.2.1 c' o' c0 c1 o0 o1 with ⟨q1, q2⟩ | ⟨k', q⟩
        · refine Or.inl ⟨q1, fun k k' z => ?_⟩
          by_cases e1 : c' = c
          · have := z.2.1 e1; have := z.1.2.2.2.1; omega
          · by_cases e2 : o' = c
            · have := z.2.2 e2; have := z.1.2.2.2.2.1; omega
            · exact q2 k k' ((gam_crs e1 e2).mp z.1)
        · have e1 : c' ≠ c := fun e => by have := q.1.2.2; rw [e] at this; omega
          have e2 : o' ≠ c := fun e => by have := q.2.1.2.2; rw [e] at this; omega
          exact Or.inr ⟨k', (gam_crs e1 e2).mpr q, fun e => absurd e e1, fun e => absurd e e2⟩
    | succ j ih =>
      intro v hv v0 hi
      have hb := cg_b (k := v) hcell hfit v0 (by omega)
      obtain ⟨a1, a2⟩ := r3 _ hb.1 hb.2
      obtain ⟨b1, b2, -, -⟩ := w3 _ hb.1 hb.2
      apply B_X2_addLight_79
      rw [hcg v]
      refine ⟨by omega, by omega, fun z => by omega, fun _ => ⟨by omega, by omega, fun z => ih (v + 1) (by omega) (by omega) (fun k k0 k1 => ?_), fun z => h1 (fun nw => ?_)⟩⟩
      · rcases (show k < v ∨ k = v by omega) with y | y
        · exact hi k k0 y
        · rw [y]; omega
      · have := nw.2.2.2.2.2 v v0 (by omega)
        rw [if_neg (by decide)] at this
        omega
  exact k79 (μ 89 c).toNat 0 (by omega) (by omega) (fun k k0 k1 => by omega)

theorem s_addL1 {c row col : Int} (hG : gG μ) (hC : gC μ) (hc : 0 ≤ c ∧ c < 16) (hpos : 0 < μ 89 c) (hnl : μ 117 c = 0) (hcell : 0 ≤ row ∧ row ≤ 8 ∧ 0 ≤ col ∧ col ≤ 8) (hfit : (if (1 : Int) = 1 then row else col) + μ 89 c ≤ 9) (h1 : ¬ newL μ c row col 1 → P 0 μ) (h2 : newL μ c row col 1 → ∀ m, xdL μ m c row col 1 → P 1 m) : K_X2_addLight_79a G l (d + 3) P c 1 (μ 89 c) ((row * 9) + col) 9 0 μ := by
  have hlen := (hC.2.2.2.2.2.1 c hc.1 hc.2).2
  have hcg : ∀ k, (row * 9) + col + k * 9 = cg row col 1 k := fun k => by unfold cg; simp; omega
  have r3 := hG.2.1.2.2.1
  have w3 := hG.1.2.2.1
  -- the marks
  have k157 : newL μ c row col 1 → ∀ (j : Nat) (v : Int) (m : xMem), v + j = μ 89 c → 0 ≤ v → FrX [47, 48, 49, 51, 53] [(46, 9), (46, 10)] μ m → (∀ i, m 47 i = if i = c then row * 9 + col else μ 47 i) → (∀ i, m 48 i = if i = c then (if (1 : Int) = 1 then 9 else 1) else μ 48 i) → (∀ i, m 49 i = if i = c then μ 89 c else μ 49 i) → m 46 9 = μ 46 9 + 1 → m 46 10 = μ 46 10 + μ 89 c → (∀ x, (m 51 x = c ∧ ∃ k, 0 ≤ k ∧ k < v ∧ x = cg row col 1 k) ∨ (m 51 x = μ 51 x ∧ ∀ k, 0 ≤ k → k < v → x ≠ cg row col 1 k)) → i53 (gam μ c row col 1) m c v → K_X2_addLight_157a G l (d + 3) P c 1 (μ 89 c) ((row * 9) + col) 9 v m := by
    intro nw j
    induction j with
    | zero =>
      intro v m hv v0 fm e47 e48 e49 e9 e10 ea hi
      apply B_X2_addLight_157a
      refine ⟨by omega, by omega, fun _ => h2 nw m ⟨fm.sub (by decide) (by decide), e47, e48, e49, e9, e10, ?_, ?_, ?_⟩, fun z => by omega⟩
      · intro x
        exact Or.inr ⟨by rw [fm.k 50 (by decide)], fun e => absurd e (by decide)⟩
      · intro x
        rcases ea x with ⟨q, k, k0, k1, k2⟩ | ⟨q, q2⟩; exact Or.inl ⟨q, rfl, k, k0, by omega, k2⟩; exact Or.inr ⟨q, fun _ k k0 k1 => q2 k k0 (by omega)⟩
      · rw [show μ 89 c = v by omega]; exact hi
    | succ j ih =>
      intro v m hv v0 fm e47 e48 e49 e9 e10 ea hi
      have hb := cg_b (k := v) hcell hfit v0 (by omega)
      apply B_X2_addLight_157a
      rw [hcg v]
      have fm1 : FrX [51] [] m (st2 m 51 (cg row col 1 v) c) := FrX.sa
      have hi1 : i53 (gam μ c row col 1) (st2 m 51 (cg row col 1 v) c) c v := by
        unfold i53
        rw [st_f _ _ _ _ _ (by decide)]
        exact hi
      have go : CV G l (d + 2) mX2_cross [xr G 46, xi c, xi v, xr G 50] (st2 m 51 (cg row col 1 v) c) (fun m10 => K_X2_addLight_157a G l (d + 3) P c 1 (μ 89 c) ((row * 9) + col) 9 (v + 1) m10) := by
        refine s_cross (k3 := 50) (μ := μ) (dn := 1) rfl hG (by omega) nw v0 (by omega) (fun i => by rw [st_n _ _ _ _ _ _ (by decide)]; exact e47 i) (fun i => by rw [st_n _ _ _ _ _ _ (by decide)]; exact e48 i) (fun x x0 x1 => ?_) hi1 (fun m' f' hi' => ih (v + 1) m' (by omega) (by omega) ((fm.tr (fm1.tr f')).sub (by decide) (by decide)) (fun i => ?_) (fun i => ?_) (fun i => ?_) ?_ ?_ (fun x => ?_) hi')
        · rw [st_n _ _ _ _ _ _ (by decide), fm.k 50 (by decide)]
          have := r3 x x0 x1
          unfold oth
          simp
          omega
        · rw [f'.k 47 (by decide), st_n _ _ _ _ _ _ (by decide)]; exact e47 i
        · rw [f'.k 48 (by decide), st_n _ _ _ _ _ _ (by decide)]; exact e48 i
        · rw [f'.k 49 (by decide), st_n _ _ _ _ _ _ (by decide)]; exact e49 i
        · rw [f'.f 46 9 (by decide), st_n _ _ _ _ _ _ (by decide)]; exact e9
        · rw [f'.f 46 10 (by decide), st_n _ _ _ _ _ _ (by decide)]; exact e10
        · rw [f'.k 51 (by decide), st_i]
          by_cases c1 : x = cg row col 1 v
          · rw [if_pos c1]; exact Or.inl ⟨rfl, v, v0, by omega, c1⟩
          · rw [if_neg c1]
            rcases ea x with ⟨q, k, k0, k1, k2⟩ | ⟨q, q2⟩
            · exact Or.inl ⟨q, k, k0, by omega, k2⟩
            · refine Or.inr ⟨q, fun k k0 k1 => ?_⟩
              rcases (show k < v ∨ k = v by omega) with y | y
              · exact q2 k k0 y
              · rw [y]; exact c1
      refine ⟨by omega, by omega, fun z => by omega, fun _ => ⟨by omega, by decide, fun z => ?_, fun z => ?_⟩⟩
      · exact absurd z (by decide)
      · exact go
  -- the check
  have k79 : ∀ (j : Nat) (v : Int), v + j = μ 89 c → 0 ≤ v → (∀ k, 0 ≤ k → k < v → μ 112 (cg row col 1 k) = 0) → K_X2_addLight_79a G l (d + 3) P c 1 (μ 89 c) ((row * 9) + col) 9 v μ := by
    intro j
    induction j with
    | zero =>
      intro v hv v0 hi
      have nw : newL μ c row col 1 := ⟨hc, hpos, hnl, hcell, hfit, fun k k0 k1 => by rw [if_pos rfl]; exact hi k k0 (by omega)⟩
      apply B_X2_addLight_79a
      refine ⟨by omega, by omega, fun _ => ⟨hc, k157 nw (μ 89 c).toNat 0 _ (by omega) (by omega) ?_ (fun i => ?_) (fun i => ?_) (fun i => ?_) ?_ ?_ (fun x => ?_) ?_⟩, fun z => by omega⟩
      · exact ((FrX.sa (k := 47)).tr ((FrX.sa (k := 48)).tr ((FrX.sa (k := 49)).tr ((FrX.st (k := 46) (i := 9)).tr (FrX.st (k := 46) (i := 10)))))).sub (by decide) (by decide)
      · simp [st2]
      · simp [st2]
      · simp [st2]
      · simp [st2]
      · simp [st2]
      · exact Or.inr ⟨by simp [st2], fun k k0 k1 => by omega⟩
      · intro c' o' c0 c1 o0 o1
        have e53 : (st2 (st2 (st2 (st2 (st2 μ 47 c ((row * 9) + col)) 48 c 9) 49 c (μ 89 c)) 46 9 ((μ 46 9) + 1)) 46 10 ((μ 46 10) + μ 89 c)) 53 (c' * 16 + o') = μ 53 (c' * 16 + o') := by simp [st2]
        rw [e53]
        rcases hG.2.1.2.2.2.1 c' o' c0 c1 o0 o1 with ⟨q1, q2⟩ | ⟨k', q⟩
        · refine Or.inl ⟨q1, fun k k' z => ?_⟩
          by_cases e1 : c' = c
          · have := z.2.1 e1; have := z.1.2.2.2.1; omega
          · by_cases e2 : o' = c
            · have := z.2.2 e2; have := z.1.2.2.2.2.1; omega
            · exact q2 k k' ((gam_crs e1 e2).mp z.1)
        · have e1 : c' ≠ c := fun e => by have := q.1.2.2; rw [e] at this; omega
          have e2 : o' ≠ c := fun e => by have := q.2.1.2.2; rw [e] at this; omega
          exact Or.inr ⟨k', (gam_crs e1 e2).mpr q, fun e => absurd e e1, fun e => absurd e e2⟩
    | succ j ih =>
      intro v hv v0 hi
      have hb := cg_b (k := v) hcell hfit v0 (by omega)
      obtain ⟨a1, a2⟩ := r3 _ hb.1 hb.2
      obtain ⟨b1, b2, -, -⟩ := w3 _ hb.1 hb.2
      apply B_X2_addLight_79a
      rw [hcg v]
      refine ⟨by omega, by omega, fun z => by omega, fun _ => ⟨by omega, by omega, fun z => ih (v + 1) (by omega) (by omega) (fun k k0 k1 => ?_), fun z => h1 (fun nw => ?_)⟩⟩
      · rcases (show k < v ∨ k = v by omega) with y | y
        · exact hi k k0 y
        · rw [y]; omega
      · have := nw.2.2.2.2.2 v v0 (by omega)
        rw [if_pos rfl] at this
        omega
  exact k79 (μ 89 c).toNat 0 (by omega) (by omega) (fun k k0 k1 => by omega)

theorem s_addLight {c row col dn : Int} (hG : gG μ) (hC : gC μ) (hc : 0 ≤ c ∧ c < 16) (hpos : 0 < μ 89 c) (hrow : iR row) (hcol : iR col) (hdn : dn = 0 ∨ dn = 1) (h1 : ¬ newL μ c row col dn → P 0 μ) (h2 : newL μ c row col dn → ∀ m, xdL μ m c row col dn → P 1 m) : CI G l (d + 3) mX2_addLight [xr G 46, xi c, xi row, xi col, xi dn, xi (μ 89 c)] μ P := by
  have hlen := (hC.2.2.2.2.2.1 c hc.1 hc.2).2
  have h01 := (hG.1.1 c hc.1 hc.2).1
  apply E_X2_addLight
  refine s_hasLight hG rfl (by omega) (fun r1 g1 => ⟨fun z => h1 (fun nw => ?_), fun z => s_xIsCell hrow hcol (fun r2 g2 => ⟨fun z2 => h1 (fun nw => (bit0 g2).mp z2 nw.2.2.2.1), fun z2 => ⟨by omega, fun e => ?_, fun e => ?_⟩⟩)⟩)
  · have := ((bitne g1).mp z).2.2
    have := nw.2.2.1
    omega
  · subst e
    have hcell := (bitne g2).mp z2
    have hnl : μ 117 c = 0 := by
      have : ¬ μ 117 c = 1 := fun q => (bit0 g1).mp z ⟨hc.1, hc.2, q⟩
      omega
    apply B_X2_addLight_27
    refine ⟨by omega, fun y => ⟨by decide, fun _ => ?_, fun q => absurd rfl q⟩, fun y => h1 (fun nw => by have := nw.2.2.2.2.1; rw [if_neg (by decide)] at this; omega)⟩
    apply B_X2_addLight_53
    exact ⟨by decide, fun _ => s_addL0 hG hC hc hpos hnl hcell (by rw [if_neg (by decide)]; exact y) h1 h2, fun q => absurd rfl q⟩
  · have e' : dn = 1 := by omega
    subst e'
    have hcell := (bitne g2).mp z2
    have hnl : μ 117 c = 0 := by
      have : ¬ μ 117 c = 1 := fun q => (bit0 g1).mp z ⟨hc.1, hc.2, q⟩
      omega
    apply B_X2_addLight_27
    refine ⟨by omega, fun y => ⟨by decide, fun q => absurd q (by decide), fun _ => ?_⟩, fun y => h1 (fun nw => by have := nw.2.2.2.2.1; rw [if_pos rfl] at this; omega)⟩
    apply B_X2_addLight_53a
    exact ⟨by decide, fun q => absurd q (by decide), fun _ => s_addL1 hG hC hc hpos hnl hcell (by rw [if_pos rfl]; exact y) h1 h2⟩
/-- what the model changes when it takes a light -/
def mdL (μ ν ν' : xMem) (c row col dn : Int) : Prop := FrX [109, 110, 111, 112, 117, 118] [(74, 0)] ν ν' ∧ (∀ i, ν' 117 i = if i = c then 1 else μ 117 i) ∧ (∀ i, ν' 109 i = if i = c then row else μ 109 i) ∧ (∀ i, ν' 110 i = if i = c then col else μ 110 i) ∧ (∀ i, ν' 118 i = if i = c then dn else μ 118 i) ∧
  (∀ x, (ν' 111 x = c + 1 ∧ dn = 0 ∧ ∃ k, 0 ≤ k ∧ k < μ 89 c ∧ x = cg row col dn k) ∨ (ν' 111 x = μ 111 x ∧ (dn = 0 → ∀ k, 0 ≤ k → k < μ 89 c → x ≠ cg row col dn k))) ∧ (∀ x, (ν' 112 x = c + 1 ∧ dn = 1 ∧ ∃ k, 0 ≤ k ∧ k < μ 89 c ∧ x = cg row col dn k) ∨ (ν' 112 x = μ 112 x ∧ (dn = 1 → ∀ k, 0 ≤ k → k < μ 89 c → x ≠ cg row col dn k)))
theorem s_mLight {c row col dn : Int} (hG : gG μ) (hC : gC μ) (hc : iR c) (hrow : iR row) (hcol : iR col) (hdn : dn = 0 ∨ dn = 1) {S : List Nat} {T : List (Nat × Int)} (hf : FrX S T μ ν) (hd : dj [89, 109, 110, 111, 112, 117, 118] [] S T = true) (h1 : ¬ newL μ c row col dn → P 0 (st2 ν 74 0 0)) (h2 : newL μ c row col dn → ∀ ν', mdL μ ν ν' c row col dn → P 1 ν') : CI G l (d + 3) mX12_light [xr G 74, xi c, xi row, xi col, xi dn] ν P := by
  have w3 := hG.1.2.2.1
  have f0 : FrX [] [(74, 0)] ν (st2 ν 74 0 0) := FrX.st
  generalize hm0 : st2 ν 74 0 0 = m0 at *
  have q89 : m0 89 = μ 89 := by rw [f0.k 89 (by decide)]; exact hf.a hd (by decide)
  have q109 : m0 109 = μ 109 := by rw [f0.k 109 (by decide)]; exact hf.a hd (by decide)
  have q110 : m0 110 = μ 110 := by rw [f0.k 110 (by decide)]; exact hf.a hd (by decide)
  have q111 : m0 111 = μ 111 := by rw [f0.k 111 (by decide)]; exact hf.a hd (by decide)
  have q112 : m0 112 = μ 112 := by rw [f0.k 112 (by decide)]; exact hf.a hd (by decide)
  have q117 : m0 117 = μ 117 := by rw [f0.k 117 (by decide)]; exact hf.a hd (by decide)
  have q118 : m0 118 = μ 118 := by rw [f0.k 118 (by decide)]; exact hf.a hd (by decide)
  apply E_X12_light
  rw [hm0]
  refine s_isIn hc (by decide) (by decide) (fun r1 g1 => ⟨fun z => h1 (fun nw => (bit0 g1).mp z (by have := nw.1; omega)), fun z => ?_⟩)
  have wc := (bitne g1).mp z
  have hlen := (hC.2.2.2.2.2.1 c wc.1 (by omega)).2
  have h01 := (hG.1.1 c wc.1 (by omega)).1
  rw [q89, q117]
  refine ⟨by omega, by omega, fun y => h1 (fun nw => by have := nw.2.1; omega), fun y => ⟨by omega, fun y2 => h1 (fun nw => by have := nw.2.2.1; omega), fun y2 => s_isIn hrow (by decide) (by decide) (fun r2 g2 => ⟨fun z2 => h1 (fun nw => (bit0 g2).mp z2 (by have := nw.2.2.2.1; omega)), fun z2 => s_isIn hcol (by decide) (by decide) (fun r3 g3 => ⟨fun z3 => h1 (fun nw => (bit0 g3).mp z3 (by have := nw.2.2.2.1; omega)), fun z3 => ?_⟩)⟩)⟩⟩
  have wr := (bitne g2).mp z2
  have wl := (bitne g3).mp z3
  have hcell : 0 ≤ row ∧ row ≤ 8 ∧ 0 ≤ col ∧ col ≤ 8 := by omega
  -- the marks
  have k184 : newL μ c row col dn → ∀ (j : Nat) (v : Int) (x : xMem), v + j = μ 89 c → 0 ≤ v → FrX [109, 110, 111, 112, 117, 118] [] m0 x → (∀ i, x 117 i = if i = c then 1 else μ 117 i) → (∀ i, x 109 i = if i = c then row else μ 109 i) → (∀ i, x 110 i = if i = c then col else μ 110 i) → (∀ i, x 118 i = if i = c then dn else μ 118 i) → (∀ y, (x 111 y = c + 1 ∧ dn = 0 ∧ ∃ k, 0 ≤ k ∧ k < v ∧ y = cg row col dn k) ∨ (x 111 y = μ 111 y ∧ (dn = 0 → ∀ k, 0 ≤ k → k < v → y ≠ cg row col dn k))) → (∀ y, (x 112 y = c + 1 ∧ dn = 1 ∧ ∃ k, 0 ≤ k ∧ k < v ∧ y = cg row col dn k) ∨ (x 112 y = μ 112 y ∧ (dn = 1 → ∀ k, 0 ≤ k → k < v → y ≠ cg row col dn k))) → K_X12_light_184 G l (d + 3) P c dn v x := by
    intro nw j
    induction j with
    | zero =>
      intro v x hv v0 fx e117 e109 e110 e118 e111 e112
      apply B_X12_light_184
      rw [fx.k 89 (by decide), q89]
      refine ⟨by omega, by omega, by omega, fun _ => h2 nw x ⟨(f0.tr fx).sub (by decide) (by decide), e117, e109, e110, e118, ?_, ?_⟩, fun q => by omega⟩
      · rw [show μ 89 c = v by omega]; exact e111
      · rw [show μ 89 c = v by omega]; exact e112
    | succ j ih =>
      intro v x hv v0 fx e117 e109 e110 e118 e111 e112
      have hb := cg_b (k := v) nw.2.2.2.1 nw.2.2.2.2.1 v0 (by omega)
      have go : ∀ (Q : Int → xMem → Prop), Q (cg row col dn v) x → CI G l (d + 2) mX12_cellOf [xr G 74, xi c, xi v] x Q := by
        intro Q hQ
        apply E_X12_cellOf
        rw [e118, if_pos rfl, e109, if_pos rfl, e110, if_pos rfl]
        unfold cg at hQ hb
        refine ⟨by omega, by omega, fun q => ?_, fun q => ?_⟩
        · rw [if_neg (by omega)] at hQ hb
          exact ⟨by omega, hQ⟩
        · rw [if_pos (by omega)] at hQ hb
          exact ⟨by omega, hQ⟩
      apply B_X12_light_184
      rw [fx.k 89 (by decide), q89]
      refine ⟨by omega, by omega, by omega, fun q => by omega, fun _ => ⟨by omega, fun q => go _ ⟨by omega, ih (v + 1) _ (by omega) (by omega) ((fx.tr (FrX.sa (k := 111))).sub (by decide) (by decide)) (fun i => by rw [st_n _ _ _ _ _ _ (by decide)]; exact e117 i) (fun i => by rw [st_n _ _ _ _ _ _ (by decide)]; exact e109 i) (fun i => by rw [st_n _ _ _ _ _ _ (by decide)]; exact e110 i) (fun i => by rw [st_n _ _ _ _ _ _ (by decide)]; exact e118 i) (fun y => ?_) (fun y => ?_)⟩, fun q => go _ ⟨by omega, ih (v + 1) _ (by omega) (by omega) ((fx.tr (FrX.sa (k := 112))).sub (by decide) (by decide)) (fun i => by rw [st_n _ _ _ _ _ _ (by decide)]; exact e117 i) (fun i => by rw [st_n _ _ _ _ _ _ (by decide)]; exact e109 i) (fun i => by rw [st_n _ _ _ _ _ _ (by decide)]; exact e110 i) (fun i => by rw [st_n _ _ _ _ _ _ (by decide)]; exact e118 i) (fun y => ?_) (fun y => ?_)⟩⟩⟩
      · rw [st_i]
        by_cases c1 : y = cg row col dn v
        · rw [if_pos c1]; exact Or.inl ⟨rfl, q, v, v0, by omega, c1⟩
        · rw [if_neg c1]
          rcases e111 y with ⟨p1, p2, k, k0, k1, k2⟩ | ⟨p1, p2⟩
          · exact Or.inl ⟨p1, p2, k, k0, by omega, k2⟩
          · refine Or.inr ⟨p1, fun e k k0 k1 => ?_⟩
            rcases (show k < v ∨ k = v by omega) with h9 | h9
            · exact p2 e k k0 h9
            · rw [h9]; exact c1
      · rw [st_n _ _ _ _ _ _ (by decide)]
        rcases e112 y with ⟨p1, p2, k, k0, k1, k2⟩ | ⟨p1, p2⟩
        · omega
        · exact Or.inr ⟨p1, fun e => by omega⟩
      · rw [st_n _ _ _ _ _ _ (by decide)]
        rcases e111 y with ⟨p1, p2, k, k0, k1, k2⟩ | ⟨p1, p2⟩
        · omega
        · exact Or.inr ⟨p1, fun e => by omega⟩
      · rw [st_i]
        by_cases c1 : y = cg row col dn v
        · rw [if_pos c1]; exact Or.inl ⟨rfl, by omega, v, v0, by omega, c1⟩
        · rw [if_neg c1]
          rcases e112 y with ⟨p1, p2, k, k0, k1, k2⟩ | ⟨p1, p2⟩
          · exact Or.inl ⟨p1, p2, k, k0, by omega, k2⟩
          · refine Or.inr ⟨p1, fun e k k0 k1 => ?_⟩
            rcases (show k < v ∨ k = v by omega) with h9 | h9
            · exact p2 e k k0 h9
            · rw [h9]; exact c1
  -- the check
  have k80 : (if dn = 1 then row else col) + μ 89 c ≤ 9 → ∀ (j : Nat) (v : Int), v + j = μ 89 c → 0 ≤ v → (∀ k, 0 ≤ k → k < v → (if dn = 1 then μ 112 (cg row col dn k) else μ 111 (cg row col dn k)) = 0) → K_X12_light_80 G l (d + 3) P c row col dn v m0 := by
    intro hfit j
    induction j with
    | zero =>
      intro v hv v0 hi
      have nw : newL μ c row col dn := ⟨by omega, by omega, y2, hcell, hfit, fun k k0 k1 => hi k k0 (by omega)⟩
      apply B_X12_light_80
      rw [q89]
      refine ⟨by omega, by omega, by omega, fun _ => ⟨hdn, k184 nw (μ 89 c).toNat 0 _ (by omega) (by omega) ?_ (fun i => ?_) (fun i => ?_) (fun i => ?_) (fun i => ?_) (fun y => ?_) (fun y => ?_)⟩, fun q => by omega⟩
      · exact ((FrX.sa (k := 117)).tr ((FrX.sa (k := 109)).tr ((FrX.sa (k := 110)).tr (FrX.sa (k := 118))))).sub (by decide) (by decide)
      · simp [st2]; rw [q117]
      · simp [st2]; rw [q109]
      · simp [st2]; rw [q110]
      · simp [st2]; rw [q118]
      · exact Or.inr ⟨by simp [st2]; rw [q111], fun _ k k0 k1 => by omega⟩
      · exact Or.inr ⟨by simp [st2]; rw [q112], fun _ k k0 k1 => by omega⟩
    | succ j ih =>
      intro v hv v0 hi
      have hb := cg_b (k := v) hcell hfit v0 (by omega)
      obtain ⟨b1, b2, -, -⟩ := w3 _ hb.1 hb.2
      have k117 : ∀ s0, s0 = cg row col dn v → K_X12_light_117 G l (d + 3) P c row col dn v s0 m0 := by
        intro s0 hs
        rw [hs]
        apply B_X12_light_117
        rw [q111, q112]
        have nx : (if dn = 1 then μ 112 (cg row col dn v) else μ 111 (cg row col dn v)) = 0 → K_X12_light_80 G l (d + 3) P c row col dn (v + 1) m0 := fun h0 => ih (v + 1) (by omega) (by omega) (fun k k0 k1 => by
          rcases (show k < v ∨ k = v by omega) with h9 | h9
          · exact hi k k0 h9
          · rw [h9]; exact h0)
        refine ⟨by omega, fun q => ⟨by omega, by omega, fun y => nx (by rw [if_neg (by omega)]; omega), fun y => h1 (fun nw => ?_)⟩, fun q => ⟨by omega, by omega, fun y => nx (by rw [if_pos (by omega)]; omega), fun y => h1 (fun nw => ?_)⟩⟩
        · have := nw.2.2.2.2.2 v v0 (by omega)
          rw [if_neg (by omega)] at this
          omega
        · have := nw.2.2.2.2.2 v v0 (by omega)
          rw [if_pos (by omega)] at this
          omega
      apply B_X12_light_80
      rw [q89]
      refine ⟨by omega, by omega, by omega, fun q => by omega, fun _ => ⟨by omega, fun q => k117 _ ?_, fun q => k117 _ ?_⟩⟩
      · unfold cg; rw [if_neg (by omega)]
      · unfold cg; rw [if_pos (by omega)]
  have k63 : ∀ s0, s0 = (if dn = 1 then row else col) → K_X12_light_63 G l (d + 3) P c row col dn s0 m0 := by
    intro s0 hs
    have hs' : s0 = row ∨ s0 = col := by rw [hs]; split <;> simp
    apply B_X12_light_63
    rw [q89]
    exact ⟨by omega, by omega, fun q => k80 (by rw [← hs]; exact q) (μ 89 c).toNat 0 (by omega) (by omega) (fun k k0 k1 => by omega), fun q => h1 (fun nw => by have := nw.2.2.2.2.1; rw [← hs] at this; omega)⟩
  exact ⟨by omega, fun q => k63 _ (by rw [if_neg (by omega)]), fun q => k63 _ (by rw [if_pos (by omega)])⟩
theorem op_light (hI : INV N μ) {c row col dn : Int} (hc : iR c) (hrow : iR row) (hcol : iR col) (hdn : dn = 0 ∨ dn = 1) : SIM G l (d + 60) mX11_light mX12_light [xi c, xi row, xi col, xi dn] N μ := by
  obtain ⟨hT, hD, hO, hW, hM, hS, hC, hL, hF, hU, hR, hG, hK, hP, hN⟩ := id hI
  have fail : ¬ newL μ c row col dn → CI G l (d + 60) mX12_light [xr G 74, xi c, xi row, xi col, xi dn] μ (fun r' m' => 0 = r' ∧ INV (N + 1) m') := fun hz => s_mLight (S := []) (T := []) hG hC hc hrow hcol hdn FrX.rf (by decide) (fun _ => ⟨rfl, hI.thr⟩) (fun y => absurd y hz)
  have cl := hC.2.2.2.2.2.1
  unfold SIM
  apply E_X11_light
  apply E_X0_isTold
  refine ⟨hc, fun z => ⟨fun q => absurd rfl q, fun _ => fail (fun nw => by have := nw.1; omega)⟩, fun z => ⟨fun z2 => ⟨fun q => absurd rfl q, fun _ => fail (fun nw => by have := nw.1; omega)⟩, fun z2 => ?_⟩⟩
  obtain ⟨c1, c2⟩ := cl c z z2
  rw [c1]
  refine ⟨⟨z, z2⟩, by omega, fun z3 => ⟨fun q => absurd rfl q, fun _ => fail (fun nw => by have := nw.2.1; omega)⟩, fun z3 => ⟨fun _ => ⟨⟨z, z2⟩, s_addLight hG hC ⟨z, z2⟩ z3 hrow hcol hdn (fun nw => ⟨Or.inl rfl, fail nw⟩) (fun nw m hm => ⟨Or.inr rfl, ?_⟩)⟩, fun q => absurd q (by decide)⟩⟩
  obtain ⟨fX, x47, x48, x49, x9, x10, x50, x51, xi53⟩ := hm
  refine s_mLight hG hC hc hrow hcol hdn fX (by decide) (fun y => absurd nw y) (fun _ ν' hν => ⟨rfl, ?_⟩)
  obtain ⟨gf, y117, y109, y110, y118, y111, y112⟩ := hν
  have aX := fX.tr gf
  have hA : MA μ ν' := MA.of aX (by decide)
  have z89 : ν' 89 = μ 89 := aX.k 89 (by decide)
  have z47 : ∀ i, ν' 47 i = if i = c then row * 9 + col else μ 47 i := fun i => by rw [gf.k 47 (by decide)]; exact x47 i
  have z48 : ∀ i, ν' 48 i = if i = c then (if dn = 1 then 9 else 1) else μ 48 i := fun i => by rw [gf.k 48 (by decide)]; exact x48 i
  have z49 : ∀ i, ν' 49 i = if i = c then μ 89 c else μ 49 i := fun i => by rw [gf.k 49 (by decide)]; exact x49 i
  have z50 := fun x => show _ from x50 x
  have z53 : ν' 53 = m 53 := gf.k 53 (by decide)
  have z9 : ν' 46 9 = μ 46 9 + 1 := by rw [gf.f 46 9 (by decide)]; exact x9
  have z10 : ν' 46 10 = μ 46 10 + μ 89 c := by rw [gf.f 46 10 (by decide)]; exact x10
  obtain ⟨⟨w1, w2, w3, w4⟩, ⟨r1, r2, r3, r4, r5, r6⟩, g3⟩ := id hG
  obtain ⟨n1, n2, n3, n4, n5, n6⟩ := id nw
  have elit : ∀ c', lit ν' c' ↔ (lit μ c' ∨ c' = c) := by
    intro c'
    unfold lit
    rw [y117]
    by_cases e : c' = c
    · rw [if_pos e]; exact ⟨fun _ => Or.inr e, fun _ => ⟨by omega, by omega, rfl⟩⟩
    · rw [if_neg e]; exact ⟨Or.inl, fun q => q.elim id (fun q => absurd q e)⟩
  have nlc : ¬ lit μ c := fun q => by have := q.2.2; omega
  have ne : ∀ c', lit μ c' → c' ≠ c := fun c' q e => nlc (e ▸ q)
  have ecel : ∀ c' k, c' ≠ c → cel ν' c' k = cel μ c' k := fun c' k e => by unfold cel; rw [y118, y109, y110, if_neg e, if_neg e, if_neg e]
  have ecelc : ∀ k, cel ν' c k = cg row col dn k := fun k => by unfold cel cg; rw [y118, y109, y110, if_pos rfl, if_pos rfl, if_pos rfl]
  have ecrs : ∀ c' o k k', crs ν' c' o k k' ↔ crs (gam μ c row col dn) c' o k k' := by
    intro c' o k k'
    have g1 : ∀ c', lit ν' c' ↔ lit (gam μ c row col dn) c' := fun c' => by
      by_cases e : c' = c
      · subst e; exact ⟨fun _ => ⟨n1.1, n1.2, by unfold gam; simp [st2]⟩, fun _ => (elit c').mpr (Or.inr rfl)⟩
      · rw [elit, gam_lit e]; exact ⟨fun q => q.elim id (fun q => absurd q e), Or.inl⟩
    have g2 : ∀ c' k, cel ν' c' k = cel (gam μ c row col dn) c' k := fun c' k => by
      by_cases e : c' = c
      · subst e; rw [ecelc, gam_celc]
      · rw [ecel c' k e, gam_cel e]
    have g3 : ∀ c', ν' 118 c' = gam μ c row col dn 118 c' := fun c' => by
      by_cases e : c' = c
      · subst e; rw [y118, if_pos rfl, gam_dnc]
      · rw [y118, if_neg e, gam_dn e]
    unfold crs
    rw [g1, g1, g2, g2, g3, g3, z89, gam_89]
  have mk : ∀ x, (ν' 111 x = μ 111 x ∧ (dn = 0 → ∀ k, 0 ≤ k → k < μ 89 c → x ≠ cg row col dn k)) ∨ (ν' 111 x = c + 1 ∧ dn = 0 ∧ ∃ k, 0 ≤ k ∧ k < μ 89 c ∧ x = cg row col dn k) := fun x => (y111 x).symm
  have mk2 : ∀ x, (ν' 112 x = μ 112 x ∧ (dn = 1 → ∀ k, 0 ≤ k → k < μ 89 c → x ≠ cg row col dn k)) ∨ (ν' 112 x = c + 1 ∧ dn = 1 ∧ ∃ k, 0 ≤ k ∧ k < μ 89 c ∧ x = cg row col dn k) := fun x => (y112 x).symm
  have free : ∀ k, 0 ≤ k → k < μ 89 c → (dn = 0 → μ 111 (cg row col dn k) = 0) ∧ (dn = 1 → μ 112 (cg row col dn k) = 0) := fun k k0 k1 => by
    have := n6 k k0 k1
    exact ⟨fun e => by rw [if_neg (by omega)] at this; exact this, fun e => by rw [if_pos e] at this; exact this⟩
  have hgG : gG ν' := by
    refine ⟨⟨fun c' c0 c1 => ?_, fun c' hc' => ?_, fun x x0 x1 => ?_, fun c' k hc' k0 k1 => ?_⟩, ⟨fun c' c0 c1 => ?_, fun c' hc' => ?_, fun x x0 x1 => ?_, fun c' o c0 c1 o0 o1 => ?_, ?_, ?_⟩, by rw [aX.k 52 (by decide), aX.k 113 (by decide)]; exact g3⟩
    · rw [y117, y118]
      have := w1 c' c0 c1
      constructor <;> (split <;> omega)
    · rw [y109, y110, y118, z89]
      rcases (elit c').mp hc' with q | q
      · have e := ne c' q
        rw [if_neg e, if_neg e, if_neg e]
        exact w2 c' q
      · subst q
        rw [if_pos rfl, if_pos rfl, if_pos rfl]
        refine ⟨by omega, by omega, ?_, n5⟩
        split at n5 <;> omega
    · obtain ⟨p1, p2, p3, p4⟩ := w3 x x0 x1
      have b1 : (0 ≤ ν' 111 x ∧ ν' 111 x ≤ 16) := by rcases mk x with q | q <;> omega
      have b2 : (0 ≤ ν' 112 x ∧ ν' 112 x ≤ 16) := by rcases mk2 x with q | q <;> omega
      refine ⟨b1, b2, fun hp => ?_, fun hp => ?_⟩
      · rcases mk x with ⟨q, -⟩ | ⟨q, e, k, k0, k1, k2⟩
        · rw [q] at hp ⊢
          obtain ⟨s1, s2, k, k0, k1, k2⟩ := p3 hp
          have en := ne _ s1
          exact ⟨(elit _).mpr (Or.inl s1), by rw [y118, if_neg en]; exact s2, k, k0, by rw [z89]; exact k1, by rw [ecel _ _ en]; exact k2⟩
        · rw [q, show c + 1 - 1 = c by omega]
          exact ⟨(elit _).mpr (Or.inr rfl), by rw [y118, if_pos rfl]; exact e, k, k0, by rw [z89]; exact k1, by rw [ecelc]; exact k2.symm⟩
      · rcases mk2 x with ⟨q, -⟩ | ⟨q, e, k, k0, k1, k2⟩
        · rw [q] at hp ⊢
          obtain ⟨s1, s2, k, k0, k1, k2⟩ := p4 hp
          have en := ne _ s1
          exact ⟨(elit _).mpr (Or.inl s1), by rw [y118, if_neg en]; exact s2, k, k0, by rw [z89]; exact k1, by rw [ecel _ _ en]; exact k2⟩
        · rw [q, show c + 1 - 1 = c by omega]
          exact ⟨(elit _).mpr (Or.inr rfl), by rw [y118, if_pos rfl]; exact e, k, k0, by rw [z89]; exact k1, by rw [ecelc]; exact k2.symm⟩
    · rw [z89] at k1
      rcases (elit c').mp hc' with q | q
      · have en := ne c' q
        obtain ⟨s1, s2⟩ := w4 c' k q k0 k1
        have q0 := q.1
        rw [y118, if_neg en, ecel c' k en]
        refine ⟨fun e => ?_, fun e => ?_⟩
        · rcases mk (cel μ c' k) with ⟨p, -⟩ | ⟨p, e2, k', k0', k1', k2'⟩
          · rw [p]; exact s1 e
          · have f1 := (free k' k0' k1').1 e2
            rw [← k2', s1 e] at f1
            omega
        · rcases mk2 (cel μ c' k) with ⟨p, -⟩ | ⟨p, e2, k', k0', k1', k2'⟩
          · rw [p]; exact s2 e
          · have f1 := (free k' k0' k1').2 e2
            rw [← k2', s2 e] at f1
            omega
      · subst q
        rw [y118, if_pos rfl, ecelc]
        refine ⟨fun e => ?_, fun e => ?_⟩
        · rcases mk (cg row col dn k) with ⟨p, p2⟩ | ⟨p, -⟩
          · exact absurd rfl (p2 e k k0 k1)
          · exact p
        · rcases mk2 (cg row col dn k) with ⟨p, p2⟩ | ⟨p, -⟩
          · exact absurd rfl (p2 e k k0 k1)
          · exact p
    · rw [z49, y117, z89]
      by_cases e : c' = c
      · rw [if_pos e, if_pos e, if_pos rfl, e]
      · rw [if_neg e, if_neg e]; exact r1 c' c0 c1
    · rw [z47, z48, y109, y110, y118]
      by_cases e : c' = c
      · rw [if_pos e, if_pos e, if_pos e, if_pos e, if_pos e]; exact ⟨by omega, rfl⟩
      · rw [if_neg e, if_neg e, if_neg e, if_neg e, if_neg e]
        exact r2 c' (((elit c').mp hc').elim id (fun q => absurd q e))
    · obtain ⟨p1, p2⟩ := r3 x x0 x1
      constructor
      · rw [gf.k 50 (by decide)]
        rcases x50 x with ⟨q, e, k, k0, k1, k2⟩ | ⟨q, q2⟩ <;> rcases mk x with ⟨p, p2'⟩ | ⟨p, e', k', k0', k1', k2'⟩
        · exact absurd k2 (p2' e k k0 k1)
        · rw [q, p]; omega
        · rw [q, p]; exact p1
        · exact absurd k2' (q2 e' k' k0' k1')
      · rw [gf.k 51 (by decide)]
        rcases x51 x with ⟨q, e, k, k0, k1, k2⟩ | ⟨q, q2⟩ <;> rcases mk2 x with ⟨p, p2'⟩ | ⟨p, e', k', k0', k1', k2'⟩
        · exact absurd k2 (p2' e k k0 k1)
        · rw [q, p]; omega
        · rw [q, p]; exact p2
        · exact absurd k2' (q2 e' k' k0' k1')
    · rw [z53]
      rcases xi53 c' o c0 c1 o0 o1 with ⟨q1, q2⟩ | ⟨k', q1, -, -⟩
      · refine Or.inl ⟨q1, fun k k' q => ?_⟩
        have q' := (ecrs c' o k k').mp q
        exact q2 k k' ⟨q', fun e => by have := q'.2.2.2.1; rw [gam_89, e] at this; exact this.2, fun e => by have := q'.2.2.2.2.1; rw [gam_89, e] at this; exact this.2⟩
      · exact Or.inr ⟨k', (ecrs c' o _ k').mpr q1⟩
    · rw [z9, r5]
      have e1 := cntW_one (p := fun c' => μ 117 c' = 1) n1.1 (show ¬ μ 117 c = 1 by omega) 16
      rw [if_pos (by omega)] at e1
      rw [← e1]
      refine cntW_congr 16 (fun v v0 v1 => ?_)
      rw [y117]
      by_cases e2 : v = c
      · rw [if_pos e2]; exact ⟨fun _ => rfl, fun _ => Or.inr e2⟩
      · rw [if_neg e2]; exact ⟨fun q => q.elim id (fun q => absurd q e2), Or.inl⟩
    · rw [z10, r6]
      have e49 : μ 49 c = 0 := by rw [r1 c n1.1 n1.2, if_neg (by omega)]
      have key : ∀ n : Nat, lenS ν' n = lenS μ n + (if c < n then μ 89 c else 0) := by
        intro n
        induction n with
        | zero => rw [lenS, lenS, if_neg (by omega)]; rfl
        | succ n ih =>
          rw [lenS, lenS, ih, z49]
          by_cases e : (n : Int) = c
          · rw [if_pos e, if_neg (by omega), if_pos (by omega), e, e49]
          · rw [if_neg e]
            by_cases e2 : c < (n : Int)
            · rw [if_pos e2, if_pos (by omega)]; omega
            · rw [if_neg e2, if_neg (by omega)]; omega
      rw [key 16, if_pos (by omega)]
  exact ⟨hT.kept aX (by decide), hD.kept aX (by decide), hO.kept aX (by decide), hW.kept aX (by decide), hM.kept aX (by decide), hS.kept aX (by decide), hC.kept aX (by decide), hL.kept aX (by decide), hF.kept aX (by decide), hU.kept aX (by decide), hR.kept aX (by decide), hgG, (hK.kept hA aX (by decide)).le (by omega), hP.kept hA aX (by decide), (hN.kept aX (by decide)).le (by omega)⟩
end Ops6
