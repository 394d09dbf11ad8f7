/-! THE PURE PART, 6: the reference's steps, its loops over parts and heads -/
variable {A M : Mem} {N : Nat → Nat} {D : Nat → UInt64}
def e1N (N : Nat → Nat) (D : Nat → UInt64) (a : Nat) : Nat → Nat := if N (12 + 10 * a + 3) = 0 then N else enN N D a (N (12 + 10 * a + 3) - 1) (N (12 + 10 * a + 8) - 1)
def e1D (N : Nat → Nat) (D : Nat → UInt64) (a : Nat) : Nat → UInt64 := if N (12 + 10 * a + 3) = 0 then D else enD N D a (N (12 + 10 * a + 3) - 1) (N (12 + 10 * a + 8) - 1)
def e2N (N : Nat → Nat) (D : Nat → UInt64) (a : Nat) : Nat → Nat := flN (e1N N D a) a
def e2D (N : Nat → Nat) (D : Nat → UInt64) (a : Nat) : Nat → UInt64 := flD (e1N N D a) (e1D N D a) a
def stA (N : Nat → Nat) : Nat := N 1 % N 0
def stN (N : Nat → Nat) (D : Nat → UInt64) : Nat → Nat := inc (lkN (e2N N D (stA N)) (stA N) (N 0)) 1
def stD (N : Nat → Nat) (D : Nat → UInt64) : Nat → UInt64 := lkD (e2N N D (stA N)) (e2D N D (stA N)) (stA N) (N 0)
def stE (N : Nat → Nat) : Nat := if N (12 + 10 * stA N + 3) = 0 then 0 else 1
/-- what a test's end asks of a head -/
def EK (N : Nat → Nat) (D : Nat → UInt64) (h : Nat) : Prop := N (12 + 10 * h + 3) ≠ 0 → (N (12 + 10 * h + 3) ≤ 60 ∧ 1 ≤ N (12 + 10 * h + 8) ∧ N (12 + 10 * h + 8) ≤ 8 ∧ PZ (D (5 + 12 * h + 0)) ∧ PZ (D (5 + 12 * h + (N (12 + 10 * h + 8) - 1))) ∧ N (92 + 8 * (N (12 + 10 * h + 3) - 1) + 2) ≤ 999 ∧ (∃ m, m ≤ 20480 ∧ GR m (D (3 + 12 * h))) ∧ FR (D (4 + 12 * h)) ∧ N (12 + 10 * h + 0) ≤ 1000 ∧ N (12 + 10 * h + 2) < 2 ^ 30 ∧ N 3 < 2 ^ 30 ∧ N (92 + 8 * (N (12 + 10 * h + 3) - 1) + 5) < 2 ^ 30 ∧ N 11 < 60)
def FK (N : Nat → Nat) (h : Nat) : Prop := N 11 ≤ 60 ∧ N (12 + 10 * h + 1) ≤ 2 ∧ ∀ k, k < N 11 → N (572 + k) < 60 ∧ N (92 + 8 * N (572 + k)) ≤ 1 ∧ N (92 + 8 * N (572 + k) + 6) < 2 ^ 30
def ST (N : Nat → Nat) (D : Nat → UInt64) : Prop := 2 ≤ N 0 ∧ N 0 ≤ 8 ∧ N 1 < 2 ^ 30 ∧ EK N D (stA N) ∧ FK (e1N N D (stA N)) (stA N) ∧ e2N N D (stA N) 0 = N 0 ∧ (∀ h, h < N 0 → e2N N D (stA N) (12 + 10 * h + 3) ≠ 0 → e2N N D (stA N) (12 + 10 * h + 8) ≤ 9) ∧ ∀ h, h < N 0 → h ≠ stA N → LK (e2N N D (stA N)) (e2D N D (stA N)) h
def itS (N : Nat → Nat) (D : Nat → UInt64) : Nat → (Nat → Nat) × (Nat → UInt64) × Nat
  | 0 => (N, D, 0)
  | n + 1 => (stN (itS N D n).1 (itS N D n).2.1, stD (itS N D n).1 (itS N D n).2.1, (itS N D n).2.2 + stE (itS N D n).1)
def spN (N : Nat → Nat) : Nat → Nat → Nat
  | 0 => N
  | i + 1 => rjN (spN N i) (N (572 + i)) 5
theorem spN_ln (N : Nat → Nat) (j : Nat) : ∀ i, (∀ k, k < i → N (572 + k) < 60) → 572 ≤ j → spN N i j = N j := by
  intro i
  induction i with
  | zero => intro _ _; rfl
  | succ i ih =>
    intro h hj
    have := h i (by omega)
    unfold spN rjN
    rw [inc_ne (by omega), up_ne (by omega), up_ne (by omega)]
    exact ih (fun k hk => h k (by omega)) hj
/-- parts go back to the row's front, from the highest head on -/
def clN (N : Nat → Nat) (e : Nat) : Nat → Nat → Nat
  | 0 => N
  | d + 1 => if N (12 + 10 * (e - 1 - d) + 3) = 0 then clN N e d else up (tfN (clN N e d) (N (12 + 10 * (e - 1 - d) + 3) - 1)) (12 + 10 * (e - 1 - d) + 3) 0
theorem clN_hd (N : Nat → Nat) (e h k : Nat) (hh : h < 8) (hk : k < 10) : ∀ d, h + d < e → (∀ h, h < e → N (12 + 10 * h + 3) ≤ 60) → clN N e d (12 + 10 * h + k) = N (12 + 10 * h + k) := by
  intro d
  induction d with
  | zero => intro _ _; rfl
  | succ d ih =>
    intro hd hp
    unfold clN
    split
    · exact ih (by omega) hp
    · have := hp (e - 1 - d) (by omega)
      rw [up_ne (by omega)]
      unfold tfN
      rw [up_ne (by omega), inc_ne (by omega), up_ne (by omega)]
      unfold shN
      rw [if_neg (by omega)]
      exact ih (by omega) hp
/-- how many heads hold a part; how many parts are in a state -/
def cH (N : Nat → Nat) : Nat → Nat
  | 0 => 0
  | n + 1 => cH N n + (if N (12 + 10 * n + 3) = 0 then 0 else 1)
def cS (N : Nat → Nat) (s : Nat) : Nat → Nat
  | 0 => 0
  | n + 1 => cS N s n + (if N (92 + 8 * n + 3) = s then 1 else 0)
/-- a new row, with so many heads -/
def bgN (N : Nat → Nat) (k : Nat) : Nat → Nat := fun x => if x = 0 then k else if x = 3 then N 3 else 0
def bgD (D : Nat → UInt64) (k : Nat) : Nat → UInt64 := fun x => if x < 3 then D x else if x < 3 + 12 * k ∧ (x - 3) % 12 < 2 then FP.dconst1 else FP.dconst0
