/-! what single plays answer, by the model's lists (a memory α of which the model's cells count) -/
section SpecOrac
noncomputable def ind (p : Prop) : Int := @ite Int p (Classical.propDecidable p) 1 0
theorem ind_t {p : Prop} (h : p) : ind p = 1 := by unfold ind; exact if_pos h
theorem ind_f {p : Prop} (h : ¬ p) : ind p = 0 := by unfold ind; exact if_neg h
theorem ind_01 (p : Prop) : ind p = 0 ∨ ind p = 1 := by
  rcases Classical.em p with h | h
  · exact Or.inr (ind_t h)
  · exact Or.inl (ind_f h)
theorem ind_ne {p : Prop} : ind p ≠ 0 ↔ p := by
  rcases Classical.em p with h | h
  · rw [ind_t h]; exact ⟨fun _ => h, fun _ => by decide⟩
  · rw [ind_f h]; exact ⟨fun z => absurd rfl z, fun z => absurd z h⟩
theorem ind_eq {p : Prop} : ind p = 0 ↔ ¬ p := by
  rcases Classical.em p with h | h
  · rw [ind_t h]; exact ⟨fun z => absurd z (by decide), fun z => absurd h z⟩
  · rw [ind_f h]; exact ⟨fun _ => h, fun _ => rfl⟩
theorem ind_congr {p q : Prop} (h : p ↔ q) : ind p = ind q := by rw [propext h]
theorem bit_ind {r : Int} {p : Prop} (h : bit r p) : r = ind p := by
  rcases h with ⟨a, b⟩ | ⟨a, b⟩
  · rw [a, ind_t b]
  · rw [a, ind_f b]
variable (α : xMem) (tl w t : Int)
/-- the clue's word at a place; signs known on t -/
def cwd (p : Int) : Int := α 88 (8 * tl + p)
def isSg (v pl : Int) : Prop := ∃ k, 0 ≤ k ∧ k < α 74 22 ∧ α 84 k ≤ t ∧ α 82 k = v ∧ α 83 k = pl
def isMn (a b : Int) : Prop := ∃ k, 0 ≤ k ∧ k < α 74 21 ∧ α 81 k ≤ t ∧ α 79 k = a ∧ α 80 k = b
/-- letters of the answer, from either side; of it without those from p to q -/
def ansF (s k : Int) : Int := if s = 0 then α 76 (10 * w + k) else α 76 (10 * w + (α 77 w - 1 - k))
def tgL (tg : Int × Int × Int × Int × Int) : Int := (tg.2.2.2.2 - tg.2.1) - (tg.2.2.2.1 - tg.2.2.1)
def tgF (tg : Int × Int × Int × Int × Int) (m : Int) : Int := ansF α w tg.1 (if m < tg.2.2.1 - tg.2.1 then tg.2.1 + m else tg.2.1 + m + (tg.2.2.2.1 - tg.2.2.1))
def fit (v ah be : Int) (F : Int → Int) (len : Int) : Prop := α 77 v = ah + len + be ∧ ∀ m, 0 ≤ m → m < len → α 76 (10 * v + (ah + m)) = F m
noncomputable def cntN (a : Int) (p : Int → Prop) : Nat → Int
  | 0 => 0
  | n + 1 => cntN a p n + ind (α 79 n = a ∧ α 81 n ≤ t ∧ p (α 80 n))
/-- where a place's letters begin in the clue's text; the text -/
def stN : Nat → Int
  | 0 => 0
  | p + 1 => stN p + α 77 (cwd α tl p)
def txN : Nat → Int → Int
  | 0, _ => 0
  | p + 1, m => if m < stN α tl p then txN p m else α 76 (10 * cwd α tl p + (m - stN α tl p))
def stF (p : Int) : Int := stN α tl p.toNat
def txF (m : Int) : Int := txN α tl (α 87 tl).toNat m
noncomputable def cnF (F : Int → Int) (c : Int) : Nat → Int
  | 0 => 0
  | n + 1 => cnF F c n + ind (F n = c)
def isShf (F : Int → Int) (f e n : Int) : Prop := stF α tl (e + 1) - stF α tl f = n ∧ (∀ c, 97 ≤ c → c ≤ 122 → cnF (fun m => txF α tl (stF α tl f + m)) c n.toNat = cnF F c n.toNat) ∧ ∃ m, 0 ≤ m ∧ m < n ∧ txF α tl (stF α tl f + m) ≠ F m
def isHds (F : Int → Int) (f e n : Int) : Prop := e - f + 1 = n ∧ ∀ m, 0 ≤ m → m < n → α 76 (10 * cwd α tl (f + m)) = F m
def isTls (F : Int → Int) (f e n : Int) : Prop := e - f + 1 = n ∧ ∀ m, 0 ≤ m → m < n → α 76 (10 * cwd α tl (f + m) + (α 77 (cwd α tl (f + m)) - 1)) = F m
def isHid (F : Int → Int) (f e n : Int) : Prop := f < e ∧ ∃ x, 1 ≤ x ∧ x < α 77 (cwd α tl f) ∧ 1 ≤ n - (stF α tl e - stF α tl (f + 1)) - x ∧ n - (stF α tl e - stF α tl (f + 1)) - x < α 77 (cwd α tl e) ∧ ∀ m, 0 ≤ m → m < n → txF α tl (stF α tl (f + 1) - x + m) = F m
/-- the oracles of a clue's telling, an answer, a day -/
noncomputable def Orc : xO :=
  (fun p ah be tg => ind (fit α (cwd α tl p) ah be (tgF α w tg) (tgL tg)),
   fun p ah be tg => cntN α t (cwd α tl p) (fun v => fit α v ah be (tgF α w tg) (tgL tg)) (α 74 21).toNat,
   fun kd s a b f e => if kd = 0 then ind (isShf α tl (tgF α w (tgA s a b)) f e (b - a)) else if kd = 1 then ind (isHds α tl (tgF α w (tgA s a b)) f e (b - a)) else if kd = 2 then ind (isTls α tl (tgF α w (tgA s a b)) f e (b - a)) else ind (isHid α tl (tgF α w (tgA s a b)) f e (b - a)),
   fun p pl => ind (isSg α t (cwd α tl p) pl),
   α 77 w)
variable {α tl w t}
theorem cntN_nn {a : Int} {p : Int → Prop} : ∀ n, 0 ≤ cntN α t a p n
  | 0 => Int.le_refl _
  | n + 1 => by
    have := cntN_nn (a := a) (p := p) n
    rw [cntN]
    rcases ind_01 (α 79 n = a ∧ α 81 n ≤ t ∧ p (α 80 n)) with h | h <;> omega
theorem cntN_le {a : Int} {p : Int → Prop} : ∀ n : Nat, cntN α t a p n ≤ n
  | 0 => Int.le_refl _
  | n + 1 => by
    have := cntN_le (a := a) (p := p) n
    rw [cntN]
    rcases ind_01 (α 79 n = a ∧ α 81 n ≤ t ∧ p (α 80 n)) with h | h <;> omega
theorem stN_tx : ∀ (n p : Nat) (k : Int), p < n → 0 ≤ k → k < α 77 (cwd α tl p) → (∀ q : Nat, q < n → 0 ≤ α 77 (cwd α tl q)) → txN α tl n (stN α tl p + k) = α 76 (10 * cwd α tl p + k)
  | 0, p, k, h, _, _, _ => by omega
  | n + 1, p, k, h, k0, k1, hl => by
    have mono : ∀ (a b : Nat), a ≤ b → b ≤ n → stN α tl a ≤ stN α tl b := by
      intro a b hab
      induction b with
      | zero => intro _; rw [show a = 0 by omega]; exact Int.le_refl _
      | succ b ih =>
        intro hb
        rcases (show a = b + 1 ∨ a ≤ b by omega) with e | e
        · rw [e]; exact Int.le_refl _
        · have h1 := ih e (by omega)
          have h2 := hl b (by omega)
          rw [stN]
          omega
    rw [txN]
    rcases (show p = n ∨ p < n by omega) with e | e
    · subst e
      rw [if_neg (by omega)]
      congr 1
      omega
    · have h3 := mono (p + 1) n (by omega) (Nat.le_refl n)
      rw [stN] at h3
      rw [if_pos (by omega)]
      exact stN_tx n p k e k0 k1 (fun q hq => hl q (by omega))
end SpecOrac
