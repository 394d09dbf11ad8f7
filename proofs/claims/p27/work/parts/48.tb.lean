/-! THE PURE PART, 26: what is told: counts, bits, traces -/
variable {zz : Nat}
variable {M M' A : Mem} {b b' c h k tl : Nat} {s s' z : S3} {Hs : Nat → S3} {f : Bool} {q tx : Nat → Nat} {N N' P : Nat → Nat} {D D' : Nat → UInt64}
/-- numbers and bits: the float's own bits, a double out of its bits -/
theorem bits_ok {p : UInt64} (hp : PZ p) {K : Int32 → Mem → Prop} (H : K (UInt32.toInt32 (FP.d2f p)) M) : vf_n32 (FP.d2f p) ∧ w_X5_bitsOf (448 + zz) M (FP.d2f p) K := bits_okx hp H
theorem fnan_ok {p : UInt64} (hp : PZ p) : Op.cmpValue (FP.fcmp (FP.d2f p) (FP.d2f p)) CmpOp.l = 0 := fnan_okx hp
theorem dself_ok {v : UInt64} (hv : v.toNat ≤ 4696837146684686336) : Op.cmpValue (FP.dcmp v v) CmpOp.l = 0 := dself_okx hv
theorem k447 : 447 ≤ (448 + zz) ∧ kd 447 = (4, 0) := ⟨by omega, by decide⟩
theorem cK_cnt (f : Nat → Int32) (g : Nat → Nat) (s n : Nat) : ∀ m, n ≤ m → (∀ i, i < n → (f i = nI s ↔ g i = s)) → (∀ i, n ≤ i → i < m → f i ≠ nI s) → cK f (nI s) m = cnt g s n := by
  have h0 : ∀ m, m ≤ n → (∀ i, i < n → (f i = nI s ↔ g i = s)) → cK f (nI s) m = cnt g s m := by
    intro m
    induction m with
    | zero => intro _ _; rfl
    | succ m ih =>
      intro hm h
      unfold cK cnt
      rw [ih (by omega) h]
      by_cases e : g m = s
      · rw [if_pos ((h m (by omega)).mpr e), if_pos e]
      · rw [if_neg (fun y => e ((h m (by omega)).mp y)), if_neg e]
  intro m
  induction m with
  | zero =>
    intro hm h _
    obtain rfl : n = 0 := by omega
    rfl
  | succ m ih =>
    intro hm h h2
    by_cases e : n = m + 1
    · rw [e]; exact h0 (m + 1) (by omega) h
    · have := ih (by omega) h (fun i a b => h2 i a (by omega))
      unfold cK
      rw [this, if_neg (h2 m (by omega) (by omega))]
      rfl
theorem cp_eq {x e : Nat} (he : 1 ≤ e) (h5 : e < 2 ^ 31) (hx : x < 2 ^ 31) : cp x = nI e ↔ x = e := by
  unfold cp
  by_cases z : x = 0
  · rw [if_pos z]
    exact ⟨fun y => absurd y.symm (nI_ne5 h5), fun y => by omega⟩
  · rw [if_neg z]; exact nI_eq hx h5
theorem sumK_sm (f : Nat → Int32) (g : Nat → Nat) : ∀ n, (∀ i, i < n → f i = nI (g i)) → sumK f n = nI (sm g n) := by
  intro n
  induction n with
  | zero => intro _; rfl
  | succ n ih =>
    intro h
    unfold sumK sm
    rw [ih (fun i hi => h i (by omega)), h n (by omega), nI_add]
theorem WO.tr {N : Nat → Nat} {D : Nat → UInt64} {h : Nat} (w : WO N D h) (h3 : N (12 + 10 * h + 3) ≠ 0) : ∀ j, j < N (12 + 10 * h + 8) → decn (nI (N (92 + 8 * (N (12 + 10 * h + 3) - 1) + 1))) (BY (N (92 + 8 * (N (12 + 10 * h + 3) - 1) + 2))) (D (5 + 12 * h + 0)) j = D (5 + 12 * h + j) := by
  obtain ⟨o1, o2, o3, o4, o5, o6⟩ := w h3
  intro j
  induction j with
  | zero => intro _; rfl
  | succ j ih =>
    intro hj
    rw [o6 j hj, ← ih (by omega)]
    rfl
