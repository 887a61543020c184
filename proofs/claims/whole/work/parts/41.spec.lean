/-! THE READINGS as numbers: what a piece, a row, a clue come to, out of what single plays answer -/
section SpecRead
/-- how many, the least cost, the name of the best (its symbols) -/
abbrev Tri : Type := Int × Int × List Int
def T0 : Tri := (0, 1000, [])
/-- a name as a number of n places of 32 -/
def cd : Nat → List Int → Int
  | _, [] => 0
  | 0, _ :: _ => 0
  | n + 1, s :: r => s * 32 ^ n + cd n r
/-- t, and u is offered -/
def mg (t u : Tri) : Tri := (t.1 + u.1, if u.1 = 0 then t.2 else if t.1 = 0 ∨ u.2.1 < t.2.1 ∨ (u.2.1 = t.2.1 ∧ cd 36 u.2.2 < cd 36 t.2.2) then u.2 else t.2)
def mgL (t : Tri) (us : List Tri) : Tri := us.foldl mg t
/-- the plays' answers: own letters, meanings, a spread play, signs, the answer's length -/
abbrev xO : Type := (Int → Int → Int → Int × Int × Int × Int × Int → Int) × (Int → Int → Int → Int × Int × Int × Int × Int → Int) × (Int → Int → Int → Int → Int → Int → Int) × (Int → Int → Int) × Int
def wds : Nat → Int → List Int
  | 0, _ => []
  | n + 1, f => (12 + f) :: wds n (f + 1)
def nSpr (y S f t : Int) : List Int := [y, 12 + S, 1] ++ (wds (t - f + 1).toNat f ++ [2])
def nCut (y S how w : Int) : List Int := [y, 12 + S, 1, how, 12 + w, 2]
def nTrn (S : Int) (L : List Int) : List Int := [31, 12 + S, 1] ++ (L ++ [2])
def nArd (y S : Int) (L : List Int) (ah how w : Int) : List Int := [y, 12 + S, 1] ++ (L ++ [2, 2 + ah, how, 12 + w])
def nLnk (k : Int) : List Int := if k = -1 then [] else [27, 12 + k]
abbrev tgA (s a b : Int) : Int × Int × Int × Int × Int := (s, a, b, b, b)
def oSgd (O : xO) (s a b S f t : Int) : List Tri :=
  [(O.2.2.2.1 S 0 * O.2.2.1 0 s a b f t, 1, nSpr 30 S f t), (O.2.2.2.1 S 1 * O.2.2.1 1 s a b f t, 1, nSpr 24 S f t), (O.2.2.2.1 S 2 * O.2.2.1 2 s a b f t, 1, nSpr 23 S f t), (O.2.2.2.1 S 3 * O.2.2.1 3 s a b f t, 1, nSpr 25 S f t)] ++
  (if f = t then [(O.2.2.2.1 S 5 * O.1 f 1 0 (tgA s a b), 3, nCut 21 S 28 f), (O.2.2.2.1 S 5 * O.2.1 f 1 0 (tgA s a b), 2, nCut 21 S 29 f), (O.2.2.2.1 S 6 * O.1 f 0 1 (tgA s a b), 3, nCut 22 S 28 f), (O.2.2.2.1 S 6 * O.2.1 f 0 1 (tgA s a b), 2, nCut 22 S 29 f)] else [])
abbrev xV : Type := Int → Int → Int → Int → Int → Tri
def oTrn (O : xO) (RV : xV) (s a b S f t : Int) : Tri := (O.2.2.2.1 S 4 * (RV (1 - s) f t (O.2.2.2.2 - b) (O.2.2.2.2 - a)).1, 1 + (RV (1 - s) f t (O.2.2.2.2 - b) (O.2.2.2.2 - a)).2.1, nTrn S (RV (1 - s) f t (O.2.2.2.2 - b) (O.2.2.2.2 - a)).2.2)
/-- something put in, at the letters p to q -/
def oArd (O : xO) (RV : xV) (s a b y S w f t p q : Int) : List Tri :=
  [((RV s f t p q).1 * O.1 w 0 0 (s, a, p, q, b), 1 + (RV s f t p q).2.1 + 2, nArd y S (RV s f t p q).2.2 (p - a) 28 w), ((RV s f t p q).1 * O.2.1 w 0 0 (s, a, p, q, b), 1 + (RV s f t p q).2.1 + 1, nArd y S (RV s f t p q).2.2 (p - a) 29 w)]
/-- q from b - n on -/
def oArdQ (O : xO) (RV : xV) (s a b y S w f t p : Int) : Nat → List Tri
  | 0 => []
  | n + 1 => oArd O RV s a b y S w f t p (b - (n + 1 : Nat)) ++ oArdQ O RV s a b y S w f t p n
/-- p from b - 1 - n on -/
def oArdP (O : xO) (RV : xV) (s a b y S w f t : Int) : Nat → List Tri
  | 0 => []
  | n + 1 => oArdQ O RV s a b y S w f t (b - 1 - (n + 1 : Nat)) (n + 1) ++ oArdP O RV s a b y S w f t n
def oIn (O : xO) (RV : xV) (s i j a b : Int) : List Tri := if 2 ≤ j - i ∧ O.2.2.2.1 (j - 1) 7 ≠ 0 then oArdP O RV s a b 26 (j - 1) j i (j - 2) (b - 1 - (a + 1)).toNat else []
def oAbout (O : xO) (RV : xV) (s i j a b : Int) : List Tri := if 2 ≤ j - i ∧ O.2.2.2.1 (i + 1) 8 ≠ 0 then oArdP O RV s a b 20 (i + 1) i (i + 2) j (b - 1 - (a + 1)).toNat else []
def pieceEq (O : xO) (RV : xV) (s i j a b : Int) : Tri :=
  if i = j then mgL T0 [(O.1 i 0 0 (tgA s a b), 2, [28, 12 + i]), (O.2.1 i 0 0 (tgA s a b), 1, [29, 12 + i])]
  else mgL T0 (oSgd O s a b i (i + 1) j ++ (oSgd O s a b j i (j - 1) ++ (oTrn O RV s a b i (i + 1) j :: oTrn O RV s a b j i (j - 1) :: (oIn O RV s i j a b ++ oAbout O RV s i j a b))))
def jn (p : Tri) (k : Int) (r : Tri) : Tri := (p.1 * r.1, p.2.1 + r.2.1, p.2.2 ++ (nLnk k ++ r.2.2))
def oJn (O : xO) (PV RV : xV) (s i j a b k c : Int) : List Tri := [jn (PV s i k a c) (-1) (RV s (k + 1) j c b), (O.2.2.2.1 (k + 1) 9 * ((PV s i k a c).1 * (RV s (k + 2) j c b).1), (PV s i k a c).2.1 + (RV s (k + 2) j c b).2.1, (PV s i k a c).2.2 ++ (nLnk (k + 1) ++ (RV s (k + 2) j c b).2.2))]
def oJnC (O : xO) (PV RV : xV) (s i j a b k : Int) : Nat → List Tri
  | 0 => []
  | n + 1 => oJn O PV RV s i j a b k (b - (n + 1 : Nat)) ++ oJnC O PV RV s i j a b k n
def oJnK (O : xO) (PV RV : xV) (s i j a b : Int) : Nat → List Tri
  | 0 => []
  | n + 1 => oJnC O PV RV s i j a b (j - (n + 1 : Nat)) (b - (a + 1)).toNat ++ oJnK O PV RV s i j a b n
def rowEq (O : xO) (PV RV : xV) (s i j a b : Int) : Tri := mgL T0 (PV s i j a b :: oJnK O PV RV s i j a b (j - i).toNat)
def PR (O : xO) : Nat → xV × xV
  | 0 => (fun _ _ _ _ _ => T0, fun _ _ _ _ _ => T0)
  | f + 1 => (fun s i j a b => if i ≤ j ∧ a < b then pieceEq O (PR O f).2 s i j a b else T0, fun s i j a b => if i ≤ j ∧ a < b then rowEq O (fun s i j a b => if i ≤ j ∧ a < b then pieceEq O (PR O f).2 s i j a b else T0) (PR O f).2 s i j a b else T0)
def PV (O : xO) : xV := (PR O 9).1
def RV (O : xO) : xV := (PR O 9).2
/-- the clue of n words by the answer: two; front and back with the two links -/
def whole (O : xO) (n : Int) (fr ba : Int) : Tri :=
  mgL T0 [(fr * ba * (if n = 2 then 1 else if n = 3 then O.2.2.2.1 1 9 else 0), 2, [29, 12] ++ (nLnk (if n = 3 then 1 else -1) ++ [11, 29, 12 + (n - 1)])),
    (fr * (RV O 0 1 (n - 1) 0 O.2.2.2.2).1, 1 + (RV O 0 1 (n - 1) 0 O.2.2.2.2).2.1, [29, 12, 11] ++ (RV O 0 1 (n - 1) 0 O.2.2.2.2).2.2),
    (fr * (if 3 ≤ n then O.2.2.2.1 1 9 else 0) * (RV O 0 2 (n - 1) 0 O.2.2.2.2).1, 1 + (RV O 0 2 (n - 1) 0 O.2.2.2.2).2.1, [29, 12, 11] ++ ([27, 13] ++ (RV O 0 2 (n - 1) 0 O.2.2.2.2).2.2)),
    (ba * (RV O 0 0 (n - 2) 0 O.2.2.2.2).1, 1 + (RV O 0 0 (n - 2) 0 O.2.2.2.2).2.1, (RV O 0 0 (n - 2) 0 O.2.2.2.2).2.2 ++ [11, 29, 12 + (n - 1)]),
    (ba * (if 3 ≤ n then O.2.2.2.1 (n - 2) 9 else 0) * (RV O 0 0 (n - 3) 0 O.2.2.2.2).1, 1 + (RV O 0 0 (n - 3) 0 O.2.2.2.2).2.1, (RV O 0 0 (n - 3) 0 O.2.2.2.2).2.2 ++ ([27, 12 + (n - 2)] ++ [11, 29, 12 + (n - 1)]))]
theorem mgL_nil (t : Tri) : mgL t [] = t := rfl
theorem mgL_cons (t u : Tri) (us : List Tri) : mgL t (u :: us) = mgL (mg t u) us := rfl
theorem mgL_app (t : Tri) (us vs : List Tri) : mgL t (us ++ vs) = mgL (mgL t us) vs := List.foldl_append
theorem mg_0 (t u : Tri) (h : u.1 = 0) : mg t u = t := by
  obtain ⟨n, c⟩ := t
  simp [mg, h]
theorem ardQ_congr {O : xO} {R R' : xV} {s a b y S w f t p : Int} (h : ∀ p q, R s f t p q = R' s f t p q) : ∀ n, oArdQ O R s a b y S w f t p n = oArdQ O R' s a b y S w f t p n
  | 0 => rfl
  | n + 1 => by rw [oArdQ, oArdQ, ardQ_congr h n, oArd, oArd, h]
theorem ardP_congr {O : xO} {R R' : xV} {s a b y S w f t : Int} (h : ∀ p q, R s f t p q = R' s f t p q) : ∀ n, oArdP O R s a b y S w f t n = oArdP O R' s a b y S w f t n
  | 0 => rfl
  | n + 1 => by rw [oArdP, oArdP, ardP_congr h n, ardQ_congr h]
theorem pieceEq_congr {O : xO} {R R' : xV} {s i j a b : Int} (hij : i ≤ j) (h : ∀ s' i' j' a' b', j' - i' < j - i → R s' i' j' a' b' = R' s' i' j' a' b') : pieceEq O R s i j a b = pieceEq O R' s i j a b := by
  unfold pieceEq
  by_cases e : i = j
  · rw [if_pos e, if_pos e]
  · rw [if_neg e, if_neg e]
    have e1 : oTrn O R s a b i (i + 1) j = oTrn O R' s a b i (i + 1) j := by
      unfold oTrn
      rw [h _ (i + 1) j _ _ (by omega)]
    have e2 : oTrn O R s a b j i (j - 1) = oTrn O R' s a b j i (j - 1) := by
      unfold oTrn
      rw [h _ i (j - 1) _ _ (by omega)]
    have e3 : oIn O R s i j a b = oIn O R' s i j a b := by
      unfold oIn
      rw [ardP_congr (fun p q => h s i (j - 2) p q (by omega))]
    have e4 : oAbout O R s i j a b = oAbout O R' s i j a b := by
      unfold oAbout
      rw [ardP_congr (fun p q => h s (i + 2) j p q (by omega))]
    rw [e1, e2, e3, e4]
theorem jnC_congr {O : xO} {A A' R R' : xV} {s i j a b k : Int} (h1 : ∀ c, A s i k a c = A' s i k a c) (h2 : ∀ c, R s (k + 1) j c b = R' s (k + 1) j c b) (h3 : ∀ c, R s (k + 2) j c b = R' s (k + 2) j c b) : ∀ n, oJnC O A R s i j a b k n = oJnC O A' R' s i j a b k n
  | 0 => rfl
  | n + 1 => by rw [oJnC, oJnC, jnC_congr h1 h2 h3 n, oJn, oJn, h1, h2, h3]
theorem jnK_congr {O : xO} {A A' R R' : xV} {s i j a b : Int} (h1 : ∀ k c, k < j → A s i k a c = A' s i k a c) (h2 : ∀ k c, i < k → R s k j c b = R' s k j c b) : ∀ n : Nat, (n : Int) ≤ j - i → oJnK O A R s i j a b n = oJnK O A' R' s i j a b n
  | 0, _ => rfl
  | n + 1, hn => by
    rw [oJnK, oJnK, jnK_congr h1 h2 n (by omega), jnC_congr (fun c => h1 _ c (by omega)) (fun c => h2 _ c (by omega)) (fun c => h2 _ c (by omega))]
theorem PR_stab (O : xO) : ∀ (f : Nat) (s i j a b : Int), j - i < f → (PR O (f + 1)).1 s i j a b = (PR O f).1 s i j a b ∧ (PR O (f + 1)).2 s i j a b = (PR O f).2 s i j a b
  | 0, s, i, j, a, b, h => by
    have e : ¬ (i ≤ j ∧ a < b) := by omega
    simp only [PR]
    rw [if_neg e, if_neg e]
    exact ⟨rfl, rfl⟩
  | f + 1, s, i, j, a, b, h => by
    have hp : ∀ s i j a b : Int, j - i < (f + 1 : Nat) → (PR O (f + 1 + 1)).1 s i j a b = (PR O (f + 1)).1 s i j a b := by
      intro s i j a b h
      show (if i ≤ j ∧ a < b then pieceEq O (PR O (f + 1)).2 s i j a b else T0) = (if i ≤ j ∧ a < b then pieceEq O (PR O f).2 s i j a b else T0)
      by_cases e : i ≤ j ∧ a < b
      · rw [if_pos e, if_pos e]
        exact pieceEq_congr e.1 (fun s' i' j' a' b' h' => (PR_stab O f s' i' j' a' b' (by omega)).2)
      · rw [if_neg e, if_neg e]
    refine ⟨hp s i j a b (by omega), ?_⟩
    show (if i ≤ j ∧ a < b then rowEq O (PR O (f + 1 + 1)).1 (PR O (f + 1)).2 s i j a b else T0) = (if i ≤ j ∧ a < b then rowEq O (PR O (f + 1)).1 (PR O f).2 s i j a b else T0)
    by_cases e : i ≤ j ∧ a < b
    · rw [if_pos e, if_pos e]
      unfold rowEq
      rw [hp s i j a b (by omega), jnK_congr (A' := (PR O (f + 1)).1) (R' := (PR O f).2) (fun k c hk => hp _ _ _ _ _ (by omega)) (fun k c hk => (PR_stab O f _ _ _ _ _ (by omega)).2) _ (by omega)]
    · rw [if_neg e, if_neg e]
theorem PV_eq (O : xO) {s i j a b : Int} (h1 : i ≤ j) (h2 : j - i < 8) (h3 : a < b) : PV O s i j a b = pieceEq O (RV O) s i j a b := by
  unfold PV RV
  rw [PR]
  simp only
  rw [if_pos ⟨h1, h3⟩]
  exact pieceEq_congr h1 (fun s' i' j' a' b' h' => (PR_stab O 8 s' i' j' a' b' (by omega)).2.symm)
theorem RV_eq (O : xO) {s i j a b : Int} (h1 : i ≤ j) (h2 : j - i < 8) (h3 : a < b) : RV O s i j a b = rowEq O (PV O) (RV O) s i j a b := by
  have e : RV O s i j a b = rowEq O (PR O 9).1 (PR O 8).2 s i j a b := by
    show (if i ≤ j ∧ a < b then rowEq O (PR O 9).1 (PR O 8).2 s i j a b else T0) = _
    rw [if_pos ⟨h1, h3⟩]
  rw [e]
  unfold rowEq PV RV
  rw [jnK_congr (A' := (PR O 9).1) (R' := (PR O 9).2) (fun k c hk => rfl) (fun k c hk => (PR_stab O 8 _ _ _ _ _ (by omega)).2.symm) _ (by omega)]
theorem PV_no (O : xO) {s i j a b : Int} (h : ¬ (i ≤ j ∧ a < b)) : PV O s i j a b = T0 := by
  unfold PV
  rw [PR]
  simp only
  rw [if_neg h]
theorem RV_no (O : xO) {s i j a b : Int} (h : ¬ (i ≤ j ∧ a < b)) : RV O s i j a b = T0 := by
  unfold RV
  rw [PR]
  simp only
  rw [if_neg h]
end SpecRead
