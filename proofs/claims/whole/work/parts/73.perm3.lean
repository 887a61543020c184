/-! a piece: the two orders -/
section SpecPerm3
def oInM (O : xO) (RV : xV) (s i j a b : Int) : List Tri := if 2 ≤ j - i ∧ O.2.2.2.1 (j - 1) 7 ≠ 0 then oMN O RV s a b 26 (j - 1) j i (j - 2) (b - a - 2).toNat else []
def oAboutM (O : xO) (RV : xV) (s i j a b : Int) : List Tri := if 2 ≤ j - i ∧ O.2.2.2.1 (i + 1) 8 ≠ 0 then oMN O RV s a b 20 (i + 1) i (i + 2) j (b - a - 2).toNat else []
/-- the model's order -/
def oPc (O : xO) (R : xV) (s i j a b : Int) : List Tri := oBy O R s a b i (i + 1) j ++ (oBy O R s a b j i (j - 1) ++ (oInM O R s i j a b ++ oAboutM O R s i j a b))
variable {O : xO} {R : xV} {s i j a b : Int}
theorem put_perm2 {y S w f t : Int} (h : b - a ≤ 10) : (oMN O R s a b y S w f t (b - a - 2).toNat).Perm (oArdP O R s a b y S w f t (b - 1 - (a + 1)).toNat) := by
  rw [show b - 1 - (a + 1) = b - a - 2 by omega]
  by_cases c : 2 ≤ b - a
  · exact put_perm (by omega) (by omega)
  · rw [show (b - a - 2).toNat = 0 by omega]
    exact List.Perm.refl _
theorem in_perm (h : b - a ≤ 10) : (oInM O R s i j a b).Perm (oIn O R s i j a b) := by
  unfold oInM oIn
  by_cases c : 2 ≤ j - i ∧ O.2.2.2.1 (j - 1) 7 ≠ 0
  · rw [if_pos c, if_pos c]; exact put_perm2 h
  · rw [if_neg c, if_neg c]
theorem about_perm (h : b - a ≤ 10) : (oAboutM O R s i j a b).Perm (oAbout O R s i j a b) := by
  unfold oAboutM oAbout
  by_cases c : 2 ≤ j - i ∧ O.2.2.2.1 (i + 1) 8 ≠ 0
  · rw [if_pos c, if_pos c]; exact put_perm2 h
  · rw [if_neg c, if_neg c]
theorem pc_perm (h : b - a ≤ 10) : (oPc O R s i j a b).Perm (oAll O R s i j a b) := by
  rw [List.perm_iff_count]
  intro x
  have h1 := (in_perm (O := O) (R := R) (s := s) (i := i) (j := j) h).count_eq x
  have h2 := (about_perm (O := O) (R := R) (s := s) (i := i) (j := j) h).count_eq x
  simp only [oPc, oAll, oBy, sgd_eq, List.count_append, List.count_cons]
  omega
end SpecPerm3
