/-! THE PURE PART, 7: the reference's copies: record, undo, keep, restore -/
variable {zz : Nat}
variable {A M : Mem} {N : Nat → Nat} {D : Nat → UInt64}
def cpI (M : Mem) (r o : Nat) (f : Nat → Int32) (i : Nat) : Mem := (fun a j => if a = r ∧ o ≤ j ∧ j < o + i then f (j - o) else M.1 a j, M.2)
def cpD (M : Mem) (r o : Nat) (f : Nat → UInt64) (i : Nat) : Mem := (M.1, fun a j => if a = r ∧ o ≤ j ∧ j < o + i then f (j - o) else M.2.1 a j, M.2.2)
theorem gI_cpI (M : Mem) (r o : Nat) (f : Nat → Int32) (i a j : Nat) : gI (cpI M r o f i) a j = if a = r ∧ o ≤ j ∧ j < o + i then f (j - o) else gI M a j := rfl
theorem gD_cpD (M : Mem) (r o : Nat) (f : Nat → UInt64) (i a j : Nat) : gD (cpD M r o f i) a j = if a = r ∧ o ≤ j ∧ j < o + i then f (j - o) else gD M a j := rfl
theorem gI_cpN {M : Mem} {r o : Nat} {f : Nat → Int32} {i a j : Nat} (h : ¬ (a = r ∧ o ≤ j ∧ j < o + i)) : gI (cpI M r o f i) a j = gI M a j := if_neg h
theorem gD_cpN {M : Mem} {r o : Nat} {f : Nat → UInt64} {i a j : Nat} (h : ¬ (a = r ∧ o ≤ j ∧ j < o + i)) : gD (cpD M r o f i) a j = gD M a j := if_neg h
theorem gI_cpY {M : Mem} {r o : Nat} {f : Nat → Int32} {i j : Nat} (h : j < i) : gI (cpI M r o f i) r (o + j) = f j := by
  rw [gI_cpI, if_pos ⟨rfl, by omega, by omega⟩, Nat.add_sub_cancel_left]
theorem gD_cpY {M : Mem} {r o : Nat} {f : Nat → UInt64} {i j : Nat} (h : j < i) : gD (cpD M r o f i) r (o + j) = f j := by
  rw [gD_cpD, if_pos ⟨rfl, by omega, by omega⟩, Nat.add_sub_cancel_left]
theorem cpI_0 (M : Mem) (r o : Nat) (f : Nat → Int32) : cpI M r o f 0 = M := by
  unfold cpI
  refine Prod.ext ?_ rfl
  funext a j
  exact if_neg (by omega)
theorem cpD_0 (M : Mem) (r o : Nat) (f : Nat → UInt64) : cpD M r o f 0 = M := by
  unfold cpD
  refine Prod.ext rfl (Prod.ext ?_ rfl)
  funext a j
  exact if_neg (by omega)
theorem cpI_s (M : Mem) (r o : Nat) (f : Nat → Int32) (i : Nat) : sI (cpI M r o f i) r (o + i) (f i) = cpI M r o f (i + 1) := by
  unfold cpI sI
  refine Prod.ext ?_ rfl
  funext a j
  dsimp only
  by_cases e : a = r ∧ j = o + i
  · rw [if_pos e, if_pos ⟨e.1, by omega, by omega⟩, e.2, Nat.add_sub_cancel_left]
  · rw [if_neg e]
    by_cases g : a = r ∧ o ≤ j ∧ j < o + i
    · rw [if_pos g, if_pos ⟨g.1, by omega, by omega⟩]
    · rw [if_neg g, if_neg (fun z => g ⟨z.1, z.2.1, by have := z.2.2; have : j ≠ o + i := fun y => e ⟨z.1, y⟩; omega⟩)]
theorem cpD_s (M : Mem) (r o : Nat) (f : Nat → UInt64) (i : Nat) : sD (cpD M r o f i) r (o + i) (f i) = cpD M r o f (i + 1) := by
  unfold cpD sD
  refine Prod.ext rfl (Prod.ext ?_ rfl)
  funext a j
  dsimp only
  by_cases e : a = r ∧ j = o + i
  · rw [if_pos e, if_pos ⟨e.1, by omega, by omega⟩, e.2, Nat.add_sub_cancel_left]
  · rw [if_neg e]
    by_cases g : a = r ∧ o ≤ j ∧ j < o + i
    · rw [if_pos g, if_pos ⟨g.1, by omega, by omega⟩]
    · rw [if_neg g, if_neg (fun z => g ⟨z.1, z.2.1, by have := z.2.2; have : j ≠ o + i := fun y => e ⟨z.1, y⟩; omega⟩)]
/-- rows over any cell -/
theorem m_rI {P : Int32 → Prop} {i : Int32} (r c L j : Nat) (hk : r ≤ (448 + zz) ∧ kd r = (c, L)) (hi : i = nI j) (hj : j < L) (hL : L < 2 ^ 31) (h : P (gI M r j)) : (r ≤ (448 + zz) ∧ (kd r).1 = c ∧ vp_in i (kd r).2) ∧ ∀ x, x = gI M r (Int32.toNatClampNeg i) → P x := by
  subst hi
  refine ⟨⟨hk.1, by rw [hk.2], by rw [hk.2]; exact vp_in_nI hj hL⟩, fun x hx => ?_⟩
  rw [nI_clamp (by omega)] at hx
  rw [hx]; exact h
theorem m_rD {P : UInt64 → Prop} {i : Int32} (r c L j : Nat) (hk : r ≤ (448 + zz) ∧ kd r = (c, L)) (hi : i = nI j) (hj : j < L) (hL : L < 2 ^ 31) (h : P (gD M r j)) : (r ≤ (448 + zz) ∧ (kd r).1 = c ∧ vp_in i (kd r).2) ∧ ∀ x, x = gD M r (Int32.toNatClampNeg i) → P x := by
  subst hi
  refine ⟨⟨hk.1, by rw [hk.2], by rw [hk.2]; exact vp_in_nI hj hL⟩, fun x hx => ?_⟩
  rw [nI_clamp (by omega)] at hx
  rw [hx]; exact h
theorem m_wI {P : Mem → Prop} {i v : Int32} (r c L j : Nat) (hk : r ≤ (448 + zz) ∧ kd r = (c, L)) (hi : i = nI j) (hj : j < L) (hL : L < 2 ^ 31) (h : P (sI M r j v)) : (r ≤ (448 + zz) ∧ (kd r).1 = c ∧ vp_in i (kd r).2) ∧ ∀ M2, M2 = sI M r (Int32.toNatClampNeg i) v → P M2 := by
  subst hi
  refine ⟨⟨hk.1, by rw [hk.2], by rw [hk.2]; exact vp_in_nI hj hL⟩, fun x hx => ?_⟩
  rw [nI_clamp (by omega)] at hx
  rw [hx]; exact h
theorem m_wD {P : Mem → Prop} {i : Int32} {v : UInt64} (r c L j : Nat) (hk : r ≤ (448 + zz) ∧ kd r = (c, L)) (hi : i = nI j) (hj : j < L) (hL : L < 2 ^ 31) (h : P (sD M r j v)) : (r ≤ (448 + zz) ∧ (kd r).1 = c ∧ vp_in i (kd r).2) ∧ ∀ M2, M2 = sD M r (Int32.toNatClampNeg i) v → P M2 := by
  subst hi
  refine ⟨⟨hk.1, by rw [hk.2], by rw [hk.2]; exact vp_in_nI hj hL⟩, fun x hx => ?_⟩
  rw [nI_clamp (by omega)] at hx
  rw [hx]; exact h
theorem m_rR {B : Nat → Prop} {r k v : Nat} (e : gR M r k = v) (h : B v) : ∀ x, x = gR M r k → B x := fun x hx => by rw [hx, e]; exact h
theorem m_eq {α : Type} {B : α → Prop} {v : α} (h : B v) : ∀ x, x = v → B x := fun x hx => by rw [hx]; exact h
def shfM (M : Mem) : Mem := sI (cpD (cpI M 451 0 (fun x => gI M 451 (x + 632)) 1896) 454 0 (fun x => gD M 454 (x + 159)) 477) 449 6 (nI 3)
def psH (Hs : Nat → (Nat → Nat) × (Nat → UInt64)) (k : Nat) (s : (Nat → Nat) × (Nat → UInt64)) : Nat → (Nat → Nat) × (Nat → UInt64) := fun i => if k = 4 then (if i < 3 then Hs (i + 1) else s) else (if i < k then Hs i else s)
def psK (k : Nat) : Nat := if k = 4 then 4 else k + 1
