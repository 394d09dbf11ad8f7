/-! THE PURE PART, 4: the reference's step -/
variable {A M : Mem} {N : Nat → Nat} {D : Nat → UInt64}
/-- the judgement: 0 accepted, 1 burst, 2 leaking, 13 unclear, 14 uncalibrated -/
def jd (N : Nat → Nat) (D : Nat → UInt64) (h t : Nat) (v : UInt64) : Nat := if 0 ≤ Op.cmpValue (FP.dcmp (D (5 + 12 * h + t)) (FP.ddiv (D (5 + 12 * h + 0)) 4611686018427387904)) CmpOp.g then (if N (12 + 10 * h + 2) ≤ N 3 then (if 0 < Op.cmpValue (FP.dcmp v (D 1)) CmpOp.g then (if Op.cmpValue (FP.dcmp v (D 2)) CmpOp.l ≤ 0 then 13 else 2) else 0) else 14) else 1
def vl (N : Nat → Nat) (D : Nat → UInt64) (h p t : Nat) : UInt64 := vlE (D (5 + 12 * h + 0)) (D (5 + 12 * h + t)) (D (3 + 12 * h)) (D (4 + 12 * h)) (N (92 + 8 * p + 2)) (N 0 - 1)
def eA0 (N : Nat → Nat) (h p : Nat) : Nat → Nat := up (up (inc (inc (inc N (12 + 10 * h + 2)) (12 + 10 * h + 4)) 4) (92 + 8 * p + 4) (N (92 + 8 * p + 4) + 1)) (92 + 8 * p + 6) (h + 1)
def eD0 (N : Nat → Nat) (D : Nat → UInt64) (h p t : Nat) : Nat → UInt64 := up D (99 + p) (vl N D h p t)
def eJ (N : Nat → Nat) (D : Nat → UInt64) (h p t : Nat) : Nat := jd (eA0 N h p) (eD0 N D h p t) h t (vl N D h p t)
def eA (N : Nat → Nat) (h p : Nat) : Nat → Nat := up (eA0 N h p) (12 + 10 * h + 3) 0
def enA (N : Nat → Nat) (h p : Nat) : Nat → Nat := inc (up (eA N h p) (92 + 8 * p + 3) 2) (12 + 10 * h + 5)
def enR (N : Nat → Nat) (h p c : Nat) : Nat → Nat := inc (rjN (eA N h p) p c) (12 + 10 * h + 6)
def enT (N : Nat → Nat) (h p : Nat) : Nat → Nat := tfN (inc (inc (up (eA N h p) (92 + 8 * p + 5) (N (92 + 8 * p + 5) + 1)) (12 + 10 * h + 7)) 5) p
def enN (N : Nat → Nat) (D : Nat → UInt64) (h p t : Nat) : Nat → Nat := if eJ N D h p t = 0 then enA N h p else if eJ N D h p t < 10 ∨ N (92 + 8 * p + 5) = 2 then enR N h p (eJ N D h p t % 10) else enT N h p
def enD (N : Nat → Nat) (D : Nat → UInt64) (h p t : Nat) : Nat → UInt64 := up (eD0 N D h p t) (3 + 12 * h) (gnE (D (3 + 12 * h)) (N (12 + 10 * h + 0)))
theorem jd_le (N : Nat → Nat) (D : Nat → UInt64) (h t : Nat) (v : UInt64) : jd N D h t v = 0 ∨ jd N D h t v = 1 ∨ jd N D h t v = 2 ∨ jd N D h t v = 13 ∨ jd N D h t v = 14 := by
  unfold jd
  split
  · split
    · split
      · split
        · exact Or.inr (Or.inr (Or.inr (Or.inl rfl)))
        · exact Or.inr (Or.inr (Or.inl rfl))
      · exact Or.inl rfl
    · exact Or.inr (Or.inr (Or.inr (Or.inr rfl)))
  · exact Or.inr (Or.inl rfl)
/-- which part a head takes: the first of the row that its fixture takes and that it did not test last -/
abbrev el (N : Nat → Nat) (h p : Nat) : Prop := tk N h p ∧ N (92 + 8 * p + 6) ≠ h + 1
def ff (N : Nat → Nat) (h : Nat) : Nat → Nat → Nat
  | 0, k => k
  | f + 1, k => if k < N 11 ∧ ¬ el N h (N (572 + k)) then ff N h f (k + 1) else k
def rmP (N : Nat → Nat) (k i : Nat) : Nat → Nat := fun x => if 572 + k ≤ x ∧ x < 572 + i then N (x + 1) else N x
def fiN (N : Nat → Nat) (h k : Nat) : Nat → Nat := up (up (up (rmP (up N 11 (N 11 - 1)) k (N 11 - 1)) (92 + 8 * N (572 + k) + 3) 1) (12 + 10 * h + 3) (N (572 + k) + 1)) (12 + 10 * h + 8) 1
def flN (N : Nat → Nat) (h : Nat) : Nat → Nat := if ff N h 61 0 = N 11 then N else fiN N h (ff N h 61 0)
def flD (N : Nat → Nat) (D : Nat → UInt64) (h : Nat) : Nat → UInt64 := if ff N h 61 0 = N 11 then D else up D (5 + 12 * h) (D 0)
theorem rmP_0 (N : Nat → Nat) (k : Nat) : rmP N k k = N := by
  funext x
  exact if_neg (by omega)
theorem rmP_step (N : Nat → Nat) (k i : Nat) (h : k ≤ i) : up (rmP N k i) (572 + i) (N (572 + i + 1)) = rmP N k (i + 1) := by
  funext x
  unfold rmP up
  by_cases e : x = 572 + i
  · rw [if_pos e, if_pos (by omega), e]
  · rw [if_neg e]
    dsimp only
    by_cases f : 572 + k ≤ x ∧ x < 572 + i
    · rw [if_pos f, if_pos (by omega)]
    · rw [if_neg f, if_neg (by omega)]
theorem ff_ge (N : Nat → Nat) (h : Nat) : ∀ f k, k ≤ ff N h f k := by
  intro f
  induction f with
  | zero => intro k; exact Nat.le_refl _
  | succ f ih =>
    intro k
    unfold ff
    split
    · exact Nat.le_trans (Nat.le_succ k) (ih (k + 1))
    · exact Nat.le_refl _
theorem ff_le (N : Nat → Nat) (h : Nat) : ∀ f k, k ≤ N 11 → ff N h f k ≤ N 11 := by
  intro f
  induction f with
  | zero => intro k hk; exact hk
  | succ f ih =>
    intro k hk
    unfold ff
    split
    · next e => exact ih (k + 1) (by omega)
    · exact hk
theorem ff_no (N : Nat → Nat) (h : Nat) : ∀ f k j, k ≤ j → j < ff N h f k → ¬ el N h (N (572 + j)) := by
  intro f
  induction f with
  | zero => intro k j h1 h2; unfold ff at h2; omega
  | succ f ih =>
    intro k j h1 h2
    unfold ff at h2
    split at h2
    · next e =>
      by_cases q : j = k
      · rw [q]; exact e.2
      · exact ih (k + 1) j (by omega) h2
    · omega
theorem ff_yes (N : Nat → Nat) (h : Nat) : ∀ f k, k ≤ N 11 → N 11 - k < f → ff N h f k ≠ N 11 → el N h (N (572 + ff N h f k)) := by
  intro f
  induction f with
  | zero => intro k _ h2; omega
  | succ f ih =>
    intro k hk hf
    unfold ff
    split
    · next e => exact ih (k + 1) (by omega) (by omega)
    · next e =>
      intro hne
      exact Classical.not_not.mp (fun z => e ⟨by omega, z⟩)

