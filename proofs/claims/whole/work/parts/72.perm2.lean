/-! what is put in: the two orders -/
section SpecPerm2
def cQ (len x : Int) : Nat → List (Int × Int)
  | 0 => []
  | n + 1 => (x, len - (n + 1 : Nat) - x) :: cQ len x n
def cP (len : Int) : Nat → List (Int × Int)
  | 0 => []
  | n + 1 => cQ len (len - 1 - (n + 1 : Nat)) (n + 1) ++ cP len n
def mX (len n : Int) : Nat → List (Int × Int)
  | 0 => []
  | k + 1 => (len - n - (k + 1 : Nat), n) :: mX len n k
def mN (len : Int) : Nat → List (Int × Int)
  | 0 => []
  | j + 1 => mX len (len - 1 - (j + 1 : Nat)) (j + 1) ++ mN len j
variable {O : xO} {R : xV} {s a b y S w f t : Int}
theorem cQ_eq (x : Int) : ∀ n : Nat, oArdQ O R s a b y S w f t (a + x) n = (cQ (b - a) x n).flatMap (fun z => oArd O R s a b y S w f t (a + z.1) (a + z.1 + z.2))
  | 0 => rfl
  | n + 1 => by
    rw [oArdQ, cQ, List.flatMap_cons, cQ_eq x n]
    simp only
    rw [show a + x + (b - a - ((n + 1 : Nat) : Int) - x) = b - ((n + 1 : Nat) : Int) by omega]
theorem cP_eq : ∀ n : Nat, oArdP O R s a b y S w f t n = (cP (b - a) n).flatMap (fun z => oArd O R s a b y S w f t (a + z.1) (a + z.1 + z.2))
  | 0 => rfl
  | n + 1 => by
    rw [oArdP, cP, List.flatMap_append, cP_eq n, ← cQ_eq, show a + (b - a - 1 - ((n + 1 : Nat) : Int)) = b - 1 - ((n + 1 : Nat) : Int) by omega]
theorem mX_eq (m : Int) : ∀ n : Nat, oMX O R s a b y S w f t m n = (mX (b - a) m n).flatMap (fun z => oArd O R s a b y S w f t (a + z.1) (a + z.1 + z.2))
  | 0 => rfl
  | n + 1 => by
    rw [oMX, mX, List.flatMap_cons, mX_eq m n]
    simp only
    rw [show a + (b - a - m - ((n + 1 : Nat) : Int)) = b - m - ((n + 1 : Nat) : Int) by omega, show b - m - ((n + 1 : Nat) : Int) + m = b - ((n + 1 : Nat) : Int) by omega]
theorem mN_eq : ∀ n : Nat, oMN O R s a b y S w f t n = (mN (b - a) n).flatMap (fun z => oArd O R s a b y S w f t (a + z.1) (a + z.1 + z.2))
  | 0 => rfl
  | n + 1 => by rw [oMN, mN, List.flatMap_append, mN_eq n, ← mX_eq]
theorem pairs_perm : ∀ n : Fin 9, (cP ((n.val : Int) + 2) n.val).Perm (mN ((n.val : Int) + 2) n.val) := by decide +kernel
theorem put_perm {n : Nat} (hn : n ≤ 8) (he : b - a = (n : Int) + 2) : (oMN O R s a b y S w f t n).Perm (oArdP O R s a b y S w f t n) := by
  rw [mN_eq, cP_eq, he]
  exact ((pairs_perm ⟨n, by omega⟩).symm).flatMap_right _
end SpecPerm2
