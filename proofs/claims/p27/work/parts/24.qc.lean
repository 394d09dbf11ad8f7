/-! THE PURE PART, 5: the reference's row of those that wait, its leaks, its steps -/
variable {A M : Mem} {N : Nat → Nat} {D : Nat → UInt64}
theorem lpU {σ : Type} (W : Nat → Nat → σ → Prop) (I : Nat → σ → Prop) (e : Nat) (hx : ∀ n s, I e s → W (n + 1) e s) (hs : ∀ n i s, i < e → I i s → (∀ s', I (i + 1) s' → W n (i + 1) s') → W (n + 1) i s) : ∀ (f i : Nat) (s : σ), i ≤ e → e - i < f → I i s → W f i s := by
  intro f
  induction f with
  | zero => intro i s _ h; omega
  | succ f ih =>
    intro i s hi hf h
    by_cases q : i = e
    · rw [q] at h ⊢; exact hx f s h
    · exact hs f i s (by omega) h (fun s' h' => ih (i + 1) s' (by omega) (by omega) h')
/-- the pressures leak away from the heads below a number, but for one -/
def lkN (N : Nat → Nat) (a : Nat) : Nat → Nat → Nat
  | 0 => N
  | n + 1 => if n ≠ a ∧ N (12 + 10 * n + 3) ≠ 0 then inc (lkN N a n) (12 + 10 * n + 8) else lkN N a n
def lkD (N : Nat → Nat) (D : Nat → UInt64) (a : Nat) : Nat → Nat → UInt64
  | 0 => D
  | n + 1 => if n ≠ a ∧ N (12 + 10 * n + 3) ≠ 0 then up (lkD N D a n) (5 + 12 * n + N (12 + 10 * n + 8)) (dec1 (nI (N (92 + 8 * (N (12 + 10 * n + 3) - 1) + 1))) (BY (N (92 + 8 * (N (12 + 10 * n + 3) - 1) + 2))) (D (5 + 12 * n + (N (12 + 10 * n + 8) - 1)))) else lkD N D a n
theorem lkN_ne (N : Nat → Nat) (a x : Nat) : ∀ n, (∀ m, m < n → x ≠ 12 + 10 * m + 8) → lkN N a n x = N x := by
  intro n
  induction n with
  | zero => intro _; rfl
  | succ n ih =>
    intro h
    unfold lkN
    split
    · rw [inc_ne (h n (by omega))]; exact ih (fun m hm => h m (by omega))
    · exact ih (fun m hm => h m (by omega))
theorem lkD_ge (N : Nat → Nat) (D : Nat → UInt64) (a x : Nat) : ∀ n, (∀ m, m < n → N (12 + 10 * m + 3) ≠ 0 → N (12 + 10 * m + 8) ≤ 9) → 3 + 12 * n ≤ x → lkD N D a n x = D x := by
  intro n
  induction n with
  | zero => intro _ _; rfl
  | succ n ih =>
    intro h hx
    unfold lkD
    split
    · next e =>
      have := h n (by omega) e.2
      rw [up_ne (by omega)]; exact ih (fun m hm => h m (by omega)) (by omega)
    · exact ih (fun m hm => h m (by omega)) (by omega)
/-- what a head that holds a part must keep for its pressure to leak -/
def LK (N : Nat → Nat) (D : Nat → UInt64) (h : Nat) : Prop := N (12 + 10 * h + 3) ≠ 0 → (N (12 + 10 * h + 3) ≤ 60 ∧ 1 ≤ N (12 + 10 * h + 8) ∧ PZ (D (5 + 12 * h + (N (12 + 10 * h + 8) - 1))) ∧ N (92 + 8 * (N (12 + 10 * h + 3) - 1) + 1) ≤ 99999 ∧ 1 ≤ N (92 + 8 * (N (12 + 10 * h + 3) - 1) + 2) ∧ N (92 + 8 * (N (12 + 10 * h + 3) - 1) + 2) ≤ 999)
