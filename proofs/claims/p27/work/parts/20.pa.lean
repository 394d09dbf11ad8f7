/-! THE PURE PART, 1: memories, numbers, the reference's cells -/
theorem gR_sI (M : Mem) (r k a j : Nat) (v : Int32) : gR (sI M r k v) a j = gR M a j := rfl
theorem gR_sD (M : Mem) (r k a j : Nat) (v : UInt64) : gR (sD M r k v) a j = gR M a j := rfl
theorem gR_sL (M : Mem) (r k a j : Nat) (v : Int64) : gR (sL M r k v) a j = gR M a j := rfl
theorem gD_sI (M : Mem) (r k a j : Nat) (v : Int32) : gD (sI M r k v) a j = gD M a j := rfl
theorem gD_sL (M : Mem) (r k a j : Nat) (v : Int64) : gD (sL M r k v) a j = gD M a j := rfl
theorem gD_sR (M : Mem) (r k a j : Nat) (v : Nat) : gD (sR M r k v) a j = gD M a j := rfl
theorem gI_sD (M : Mem) (r k a j : Nat) (v : UInt64) : gI (sD M r k v) a j = gI M a j := rfl
theorem gI_sL (M : Mem) (r k a j : Nat) (v : Int64) : gI (sL M r k v) a j = gI M a j := rfl
theorem gI_sR (M : Mem) (r k a j : Nat) (v : Nat) : gI (sR M r k v) a j = gI M a j := rfl
theorem gL_sI (M : Mem) (r k a j : Nat) (v : Int32) : gL (sI M r k v) a j = gL M a j := rfl
theorem gL_sD (M : Mem) (r k a j : Nat) (v : UInt64) : gL (sD M r k v) a j = gL M a j := rfl
theorem gL_sR (M : Mem) (r k a j : Nat) (v : Nat) : gL (sR M r k v) a j = gL M a j := rfl
theorem gI_sI (M : Mem) (r k a j : Nat) (v : Int32) : gI (sI M r k v) a j = if a = r ∧ j = k then v else gI M a j := rfl
theorem gD_sD (M : Mem) (r k a j : Nat) (v : UInt64) : gD (sD M r k v) a j = if a = r ∧ j = k then v else gD M a j := rfl
theorem gL_sL (M : Mem) (r k a j : Nat) (v : Int64) : gL (sL M r k v) a j = if a = r ∧ j = k then v else gL M a j := rfl
theorem gR_sR (M : Mem) (r k a j : Nat) (v : Nat) : gR (sR M r k v) a j = if a = r ∧ j = k then v else gR M a j := rfl
/-- a function changed at a place -/
def up {α : Type} (f : Nat → α) (j : Nat) (v : α) : Nat → α := fun i => if i = j then v else f i
theorem up_eq {α : Type} (f : Nat → α) (j : Nat) (v : α) : up f j v j = v := if_pos rfl
theorem up_ne {α : Type} {f : Nat → α} {j i : Nat} {v : α} (h : i ≠ j) : up f j v i = f i := if_neg h
/-- a row of ints of the reference holds numbers; a row of doubles -/
def RI (M : Mem) (r o L : Nat) (f : Nat → Nat) : Prop := ∀ j, j < L → gI M r (o + j) = nI (f j)
def RD (M : Mem) (r o L : Nat) (f : Nat → UInt64) : Prop := ∀ j, j < L → gD M r (o + j) = f j
theorem ix2 {a b j : Nat} {x : Int32} (h : x = nI b) (hj : a + b = j) : nI a + x = nI j := by rw [h, nI_add, hj]
theorem ixM (a b : Nat) : nI a * nI b = nI (a * b) := pk_mul a b
