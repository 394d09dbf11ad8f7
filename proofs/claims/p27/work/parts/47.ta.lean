/-! THE PURE PART, 25: what is told of heads and parts -/
variable {M M' A : Mem} {b b' c h k tl : Nat} {s s' z : S3} {Hs : Nat → S3} {f : Bool} {q tx : Nat → Nat} {N N' P : Nat → Nat} {D D' : Nat → UInt64}
theorem nI_ne5 {p : Nat} (h : p < 2 ^ 31) : ¬ nI p = -5 := fun e => nI_pos h (by rw [e]; decide)
theorem outN {y : Int32} (n : Nat) (hn : n < 2 ^ 31) (h : ∀ j, j ≤ n → y ≠ nI j) : y < 0 ∨ nI n < y := by
  by_cases h1 : y < 0
  · exact Or.inl h1
  · by_cases h2 : nI n < y
    · exact Or.inr h2
    · obtain ⟨j, j1, j2, rfl⟩ := rng (x := y) 0 n rfl rfl (by decide) hn h1 h2
      exact absurd rfl (h j j2)
theorem mod_back {j n a : Nat} (hj : j < n) (ha : a < n) : (j + n - a) % n = if a ≤ j then j - a else j + n - a := by
  by_cases h : a ≤ j
  · rw [if_pos h, show j + n - a = (j - a) + n by omega, Nat.add_mod_right, Nat.mod_eq_of_lt (by omega)]
  · rw [if_neg h, Nat.mod_eq_of_lt (by omega)]
theorem LN.pl (L : LN N P) {p : Nat} (hp : p < N 2) (h : N (92 + 8 * p + 3) = 0) : P p < N 11 ∧ N (572 + P p) = p ∧ ∀ j, j < P p → N (572 + j) ≠ p := by
  obtain ⟨a, b⟩ := L.2.2 p hp h
  refine ⟨a, b, fun j hj e => ?_⟩
  have := (L.2.1 j (by omega)).2.2
  rw [e] at this
  omega
