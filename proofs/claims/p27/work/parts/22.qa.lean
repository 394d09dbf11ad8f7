/-! THE PURE PART, 3: the reference's acts, as functions of its numbers and doubles -/
variable {A M : Mem} {N : Nat → Nat} {D : Nat → UInt64}
/-- one more at a place -/
def inc (N : Nat → Nat) (j : Nat) : Nat → Nat := up N j (N j + 1)
theorem inc_eq (N : Nat → Nat) (j : Nat) : inc N j j = N j + 1 := up_eq _ _ _
theorem inc_ne {N : Nat → Nat} {j i : Nat} (h : i ≠ j) : inc N j i = N i := up_ne h
theorem ixA (a b : Nat) : nI a + nI b = nI (a + b) := nI_add a b
theorem ixH (h k : Nat) : nI 12 + nI 10 * nI h + nI k = nI (12 + 10 * h + k) := by rw [ixM, nI_add, nI_add]
theorem ixP (p k : Nat) : nI 92 + nI 8 * nI p + nI k = nI (92 + 8 * p + k) := by rw [ixM, nI_add, nI_add]
theorem ixG (h k : Nat) : nI 3 + nI 12 * nI h + nI k = nI (3 + 12 * h + k) := by rw [ixM, nI_add, nI_add]
theorem cT {p A B : Prop} (hp : p) (h : A) : (p → A) ∧ (¬ p → B) := ⟨fun _ => h, fun z => absurd hp z⟩
theorem cF {p A B : Prop} (hp : ¬ p) (h : B) : (p → A) ∧ (¬ p → B) := ⟨fun z => absurd z hp, fun _ => h⟩
theorem cN {p A B : Prop} (hp : ¬ p) (h : A) : (¬ p → A) ∧ (p → B) := ⟨fun _ => h, fun z => absurd z hp⟩
theorem cP {p A B : Prop} (hp : p) (h : B) : (¬ p → A) ∧ (p → B) := ⟨fun z => absurd hp z, fun _ => h⟩
theorem ixT (h k : Nat) : nI 3 + nI 12 * nI h + nI 2 + nI k = nI (5 + 12 * h + k) := by rw [ixM, nI_add, nI_add, nI_add]; congr 1; omega
/-- whether a head's fixture takes a part -/
abbrev tk (N : Nat → Nat) (h p : Nat) : Prop := N (12 + 10 * h + 1) = 0 ∨ N (12 + 10 * h + 1) = 1 + N (92 + 8 * p)
def rjN (N : Nat → Nat) (p c : Nat) : Nat → Nat := inc (up (up N (92 + 8 * p + 3) 3) (92 + 8 * p + 7) c) (5 + c)
def tbN (N : Nat → Nat) (p : Nat) : Nat → Nat := inc (up N (572 + N 11) p) 11
/-- the row moved up by one, above a place -/
def shN (N : Nat → Nat) (n i : Nat) : Nat → Nat := fun x => if 572 + i < x ∧ x ≤ 572 + n then N (x - 1) else N x
def tfN (N : Nat → Nat) (p : Nat) : Nat → Nat := up (inc (up (shN N (N 11) 0) 572 p) 11) (92 + 8 * p + 3) 0
theorem shN_n (N : Nat → Nat) (n : Nat) : shN N n n = N := by
  funext x
  exact if_neg (by omega)
theorem shN_step (N : Nat → Nat) (n i : Nat) (h : i < n) : up (shN N n (i + 1)) (572 + (i + 1)) (N (572 + i)) = shN N n i := by
  funext x
  unfold shN up
  by_cases e : x = 572 + (i + 1)
  · rw [if_pos e, if_pos (by omega), e]; congr 1
  · rw [if_neg e]
    dsimp only
    by_cases f : 572 + i < x ∧ x ≤ 572 + n
    · rw [if_pos f, if_pos (by omega)]
    · rw [if_neg f, if_neg (by omega)]
/-- the cells of a part, all 0 -/
def zpN (N : Nat → Nat) (p k : Nat) : Nat → Nat := fun x => if 92 + 8 * p ≤ x ∧ x < 92 + 8 * p + k then 0 else N x
def adN (N : Nat → Nat) (a b c : Nat) : Nat → Nat := tbN (inc (up (up (up (zpN N (N 2) 8) (92 + 8 * N 2 + 0) a) (92 + 8 * N 2 + 1) b) (92 + 8 * N 2 + 2) c) 2) (N 2)
