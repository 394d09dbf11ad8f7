/-! THE PURE PART, 33: texts of parts: what they say; how the class reads them -/
variable {M M' A : Mem} {b b' c h p k k' tl tl' : Nat} {s s' z z' : S3} {Hs : Nat → S3} {f f' : Bool} {q tx tx' : Nat → Nat} {N N' P : Nat → Nat} {D D' : Nat → UInt64}
abbrev isD (tl : Nat) (tx : Nat → Nat) (i : Nat) : Prop := i < tl ∧ 48 ≤ tx i ∧ tx i ≤ 57
abbrev isC (tl : Nat) (tx : Nat → Nat) (i c : Nat) : Prop := i < tl ∧ tx i = c
/-- the place behind digits, of so many at most -/
def rn (tl : Nat) (tx : Nat → Nat) : Nat → Nat → Nat
  | 0, i => i
  | n + 1, i => if isD tl tx i then rn tl tx n (i + 1) else i
def bl (tl : Nat) (tx : Nat → Nat) (i : Nat) : Nat := if isC tl tx i 48 then i + 1 else rn tl tx 5 i
def bv (tl : Nat) (tx : Nat → Nat) (i : Nat) : Nat := if isC tl tx i 48 then i else rn tl tx 3 i
/-- of a part that begins there: its slash, its end -/
def slT (tl : Nat) (tx : Nat → Nat) (i : Nat) : Nat := bl tl tx (i + 1)
def ndT (tl : Nat) (tx : Nat → Nat) (i : Nat) : Nat := bv tl tx (slT tl tx i + 1)
abbrev okP (tl : Nat) (tx : Nat → Nat) (i : Nat) : Prop := (isC tl tx i 118 ∨ isC tl tx i 112) ∧ slT tl tx i ≠ i + 1 ∧ isC tl tx (slT tl tx i) 47 ∧ ndT tl tx i ≠ slT tl tx i + 1
def ftT (tl : Nat) (tx : Nat → Nat) (i : Nat) : Nat := if isC tl tx i 118 ∨ isC tl tx i 112 then (if slT tl tx i ≠ i + 1 ∧ isC tl tx (slT tl tx i) 47 then ndT tl tx i else slT tl tx i) else i
def posT (tl : Nat) (tx : Nat → Nat) : Nat → Nat
  | 0 => 0
  | i + 1 => ndT tl tx (posT tl tx i) + 1
abbrev cnP (tl : Nat) (tx : Nat → Nat) (i : Nat) : Prop := okP tl tx (posT tl tx i) ∧ isC tl tx (ndT tl tx (posT tl tx i)) 59
def vlT (tx : Nat → Nat) (i : Nat) : Nat → Nat
  | 0 => 0
  | n + 1 => 10 * vlT tx i n + (tx (i + n) - 48)
theorem rn_succ (n i : Nat) : rn tl tx (n + 1) i = if isD tl tx i then rn tl tx n (i + 1) else i := rfl
theorem vl_succ (tx : Nat → Nat) (i n : Nat) : vlT tx i (n + 1) = 10 * vlT tx i n + (tx (i + n) - 48) := rfl
theorem rn_spec : ∀ n i, ∃ j, rn tl tx n i = i + j ∧ j ≤ n ∧ (∀ u, u < j → isD tl tx (i + u)) ∧ (j < n → ¬ isD tl tx (i + j)) := by
  intro n
  induction n with
  | zero => intro i; exact ⟨0, rfl, Nat.le_refl _, fun u hu => by omega, fun h => by omega⟩
  | succ n ih =>
    intro i
    unfold rn
    by_cases d : isD tl tx i
    · rw [if_pos d]
      obtain ⟨j, h1, h2, h3, h4⟩ := ih (i + 1)
      refine ⟨j + 1, by omega, by omega, fun u hu => ?_, fun h => ?_⟩
      · cases u with
        | zero => exact d
        | succ u => rw [show i + (u + 1) = i + 1 + u by omega]; exact h3 u (by omega)
      · rw [show i + (j + 1) = i + 1 + j by omega]; exact h4 (by omega)
    · rw [if_neg d]
      exact ⟨0, rfl, by omega, fun u hu => by omega, fun _ => d⟩
theorem bl_spec (i : Nat) : ∃ j, bl tl tx i = i + j ∧ j ≤ 5 ∧ (∀ u, u < j → isD tl tx (i + u)) ∧ (j = 0 ↔ ¬ isD tl tx i) ∧ (isC tl tx i 48 → j = 1) ∧ (¬ isC tl tx i 48 → j < 5 → ¬ isD tl tx (i + j)) := by
  unfold bl
  by_cases e : isC tl tx i 48
  · rw [if_pos e]
    obtain ⟨e1, e2⟩ := e
    have d : isD tl tx i := ⟨e1, by omega, by omega⟩
    refine ⟨1, rfl, by omega, fun u hu => ?_, ⟨fun h => absurd h (by decide), fun h => absurd d h⟩, fun _ => rfl, fun n => absurd ⟨e1, e2⟩ n⟩
    rw [show u = 0 by omega]; exact d
  · rw [if_neg e]
    obtain ⟨j, h1, h2, h3, h4⟩ := rn_spec (tl := tl) (tx := tx) 5 i
    refine ⟨j, h1, h2, h3, ⟨fun h => ?_, fun h => ?_⟩, fun y => absurd y e, fun _ => h4⟩
    · subst h; exact h4 (by decide)
    · cases j with
      | zero => rfl
      | succ j => exact absurd (h3 0 (by omega)) h
theorem bv_spec (i : Nat) : ∃ j, bv tl tx i = i + j ∧ j ≤ 3 ∧ (∀ u, u < j → isD tl tx (i + u)) ∧ (j = 0 ↔ ¬ (isD tl tx i ∧ 49 ≤ tx i)) ∧ (¬ isC tl tx i 48 → j < 3 → ¬ isD tl tx (i + j)) := by
  unfold bv
  by_cases e : isC tl tx i 48
  · rw [if_pos e]
    obtain ⟨e1, e2⟩ := e
    exact ⟨0, rfl, by omega, fun u hu => by omega, ⟨fun _ y => by omega, fun _ => rfl⟩, fun n => absurd ⟨e1, e2⟩ n⟩
  · rw [if_neg e]
    obtain ⟨j, h1, h2, h3, h4⟩ := rn_spec (tl := tl) (tx := tx) 3 i
    refine ⟨j, h1, h2, h3, ⟨fun h => ?_, fun h => ?_⟩, fun _ => h4⟩
    · subst h; exact fun y => h4 (by decide) y.1
    · cases j with
      | zero => rfl
      | succ j =>
        have d := h3 0 (by omega)
        obtain ⟨d1, d2, d3⟩ := d
        refine absurd ⟨⟨d1, d2, d3⟩, ?_⟩ h
        have : tx i ≠ 48 := fun y => e ⟨d1, y⟩
        have d2 : 48 ≤ tx i := d2
        omega
theorem vl_lt (tx : Nat → Nat) (i : Nat) : ∀ n, (∀ u, u < n → tx (i + u) ≤ 57) → vlT tx i n < 10 ^ n := by
  intro n
  induction n with
  | zero => intro _; exact Nat.one_pos
  | succ n ih =>
    intro h
    have h1 := ih (fun u hu => h u (by omega))
    have h2 := h n (by omega)
    unfold vlT
    rw [Nat.pow_succ]
    omega
theorem vl_pos (tx : Nat → Nat) (i : Nat) (h : 49 ≤ tx i) : ∀ n, 1 ≤ n → 1 ≤ vlT tx i n := by
  intro n
  induction n with
  | zero => intro h; omega
  | succ n ih =>
    intro _
    unfold vlT
    cases n with
    | zero =>
      show 1 ≤ 10 * 0 + (tx (i + 0) - 48)
      rw [Nat.add_zero]; omega
    | succ n => have := ih (by omega); omega
/-- what a part that is right says -/
theorem ok_all {i : Nat} (o : okP tl tx i) : i < tl ∧ (∃ j, slT tl tx i = i + 1 + j ∧ 1 ≤ j ∧ j ≤ 5 ∧ (∀ u, u < j → isD tl tx (i + 1 + u)) ∧ (tx (i + 1) = 48 → j = 1) ∧ (tx (i + 1) ≠ 48 → j < 5 → ¬ isD tl tx (i + 1 + j))) ∧ (∃ j, ndT tl tx i = slT tl tx i + 1 + j ∧ 1 ≤ j ∧ j ≤ 3 ∧ (∀ u, u < j → isD tl tx (slT tl tx i + 1 + u)) ∧ 49 ≤ tx (slT tl tx i + 1) ∧ (j < 3 → ¬ isD tl tx (slT tl tx i + 1 + j))) ∧ ndT tl tx i ≤ tl ∧ i + 4 ≤ ndT tl tx i := by
  obtain ⟨o1, o2, o3, o4⟩ := o
  have it : i < tl := o1.elim (fun y => y.1) (fun y => y.1)
  obtain ⟨j, h1, h2, h3, h4, h5, h6⟩ := bl_spec (tl := tl) (tx := tx) (i + 1)
  obtain ⟨j', g1, g2, g3, g4, g5⟩ := bv_spec (tl := tl) (tx := tx) (slT tl tx i + 1)
  have e1 : slT tl tx i = i + 1 + j := h1
  have e2 : ndT tl tx i = slT tl tx i + 1 + j' := g1
  have j1 : j ≠ 0 := fun y => o2 (by omega)
  have j1' : j' ≠ 0 := fun y => o4 (by omega)
  have d := h3 0 (by omega)
  obtain ⟨d', n49⟩ := Classical.not_not.mp (fun y => j1' (g4.mpr y))
  have dl := g3 (j' - 1) (by omega)
  refine ⟨it, ⟨j, e1, by omega, h2, h3, fun y => h5 ⟨d.1, y⟩, fun y => h6 (fun y' => y y'.2)⟩, ⟨j', e2, by omega, g2, g3, n49, g5 (fun y => by have := y.2; omega)⟩, ?_, by omega⟩
  have := dl.1
  omega
def ppT (tl : Nat) (tx : Nat → Nat) (i : Nat) : Nat := if isC tl tx i 112 then 1 else 0
def lvT (tl : Nat) (tx : Nat → Nat) (i : Nat) : Nat := vlT tx (i + 1) (slT tl tx i - (i + 1))
def vvT (tl : Nat) (tx : Nat → Nat) (i : Nat) : Nat := vlT tx (slT tl tx i + 1) (ndT tl tx i - (slT tl tx i + 1))
theorem ok_val {i : Nat} (o : okP tl tx i) : ppT tl tx i ≤ 1 ∧ lvT tl tx i ≤ 99999 ∧ 1 ≤ vvT tl tx i ∧ vvT tl tx i ≤ 999 := by
  obtain ⟨-, ⟨j, h1, h2, h3, h4, -⟩, ⟨j', g1, g2, g3, g4, g5, -⟩, -⟩ := ok_all o
  unfold lvT vvT
  rw [show slT tl tx i - (i + 1) = j by omega, show ndT tl tx i - (slT tl tx i + 1) = j' by omega]
  have a := vl_lt tx (i + 1) j (fun u hu => (h4 u hu).2.2)
  have b := vl_lt tx (slT tl tx i + 1) j' (fun u hu => (g4 u hu).2.2)
  have pa : 10 ^ j ≤ 10 ^ 5 := Nat.pow_le_pow_right (by decide) h3
  have pb : 10 ^ j' ≤ 10 ^ 3 := Nat.pow_le_pow_right (by decide) g3
  have v := vl_pos tx (slT tl tx i + 1) g5 j' g2
  refine ⟨?_, by omega, v, by omega⟩
  unfold ppT
  split <;> omega
/-- the first part that is not followed by another one -/
theorem pos_ge : ∀ i, (∀ u, u < i → cnP tl tx u) → 5 * i ≤ posT tl tx i := by
  intro i
  induction i with
  | zero => intro _; exact Nat.zero_le _
  | succ i ih =>
    intro h
    have h1 := ih (fun u hu => h u (by omega))
    have h2 := (ok_all (h i (by omega)).1).2.2.2.2
    unfold posT
    omega
theorem cn_last (h60 : tl ≤ 60) : ∃ m, m ≤ 12 ∧ (∀ i, i < m → cnP tl tx i) ∧ ¬ cnP tl tx m := by
  have ex : ∃ m, ¬ cnP tl tx m := by
    refine Classical.byContradiction (fun n => ?_)
    have al : ∀ m, cnP tl tx m := fun m => Classical.not_not.mp (fun y => n ⟨m, y⟩)
    have := pos_ge (tl := tl) (tx := tx) 12 (fun u _ => al u)
    have := (ok_all (al 12).1).1
    omega
  obtain ⟨m, h1, h2⟩ := pk_least _ ex
  have h2 : ∀ i, i < m → cnP tl tx i := fun i hi => Classical.not_not.mp (h2 i hi)
  refine ⟨m, ?_, h2, h1⟩
  refine Nat.not_lt.mp (fun y => ?_)
  have := pos_ge (tl := tl) (tx := tx) 12 (fun u hu => h2 u (by omega))
  have := (ok_all (h2 12 y).1).1
  omega
theorem pos_le : ∀ i, (∀ u, u < i → cnP tl tx u) → posT tl tx i ≤ tl := by
  intro i h
  cases i with
  | zero => exact Nat.zero_le _
  | succ i =>
    have := (h i (by omega)).2.1
    unfold posT
    omega
/-- the class reads -/
theorem c_sgnC {K : Int32 → Mem → Prop} (T : TX M tl tx) (i c : Nat) (hi : i < 2 ^ 30) (hc : c < 65536) (HY : isC tl tx i c → K (nI c) M) (HN : ¬ isC tl tx i c → ∀ x, ¬ x = nI c → K x M) : w_X4_signAt 457 M 447 (nI i) K := by
  by_cases e : i < tl
  · refine c_signY T i e ?_
    have b := (T.2.2.2 i (by have := T.2.1; omega)).1
    by_cases g : tx i = c
    · rw [g]; exact HY ⟨e, g⟩
    · exact HN (fun y => g y.2) _ (fun y => g ((nI_eq (by omega) (by omega)).mp y))
  · exact c_signN T i (by omega) (by omega) (HN (fun y => e y.1) _ (fun y => nI_pos (n := c) (by omega) (by rw [← y]; decide)))
theorem c_isDig {K : Int32 → Mem → Prop} (T : TX M tl tx) (i : Nat) (hi : i < 2 ^ 30) (HY : isD tl tx i → K 1 M) (HN : ¬ isD tl tx i → K 0 M) : w_X4_isDigitAt 457 M 447 (nI i) K := by
  refine ⟨k447, ?_⟩
  by_cases e : i < tl
  · have b := (T.2.2.2 i (by have := T.2.1; omega)).1
    refine c_signY T i e (pk_lt (tx i) 48 (fun y => HN (fun d => by have := d.2.1; omega)) (fun y => c_signY T i e (pk_lt 57 (tx i) (fun z => HN (fun d => by have := d.2.2; omega)) (fun z => HY ⟨e, y, z⟩))))
  · exact c_signN T i (by omega) (by omega) (cT (by decide) (HN (fun d => e d.1)))
theorem c_bd {K : Int32 → Mem → Prop} (T : TX M tl tx) (n i : Nat) (hi : i < 2 ^ 20) (hn : n < 100) (H : K (nI (rn tl tx n i)) M) : w_X4_behindDigits 457 M 447 (nI i) (nI n) K := by
  refine lpU (fun f' j (_ : Unit) => w_X4_behindDigits_L2 457 K f' M 447 (nI i) (nI n) (nI (i + j))) (fun j _ => rn tl tx n i = rn tl tx (n - j) (i + j)) n ?_ ?_ 4000 0 () (by omega) (by omega) rfl
  · intro f' _ I
    refine ⟨fun _ => ?_, fun y => absurd (by rw [nI_add]; exact Int32.le_refl _) y⟩
    rw [Nat.sub_self] at I
    have I : rn tl tx n i = i + n := I
    rw [← I]; exact H
  · intro f' j _ hj I ih
    rw [show n - j = (n - (j + 1)) + 1 by omega, rn_succ] at I
    refine ⟨fun y => ?_, fun _ => ⟨k447, c_isDig T (i + j) (by omega) (fun d => cF (by decide) (m_eq ?_)) (fun d => cT rfl ?_)⟩⟩
    · rw [nI_add] at y
      exact absurd y (nI_ge (by omega) (by omega))
    · rw [if_pos d] at I
      rw [nI_1, show i + j + 1 = i + (j + 1) by omega]
      rw [show i + j + 1 = i + (j + 1) by omega] at I
      exact ih () I
    · rw [if_neg d] at I
      rw [← I]; exact H
theorem c_bl {K : Int32 → Mem → Prop} (T : TX M tl tx) (i : Nat) (hi : i < 2 ^ 20) (H : K (nI (bl tl tx i)) M) : w_X4_behindLeak 457 M 447 (nI i) K := by
  refine ⟨k447, c_sgnC T i 48 (by omega) (by decide) (fun y => cP rfl ?_) (fun y x hx => cN hx (c_bd T 5 i hi (by decide) ?_))⟩
  · unfold bl at H
    rw [if_pos y] at H
    rw [nI_1]; exact H
  · unfold bl at H
    rw [if_neg y] at H
    exact H
theorem c_bv {K : Int32 → Mem → Prop} (T : TX M tl tx) (i : Nat) (hi : i < 2 ^ 20) (H : K (nI (bv tl tx i)) M) : w_X4_behindVolume 457 M 447 (nI i) K := by
  refine ⟨k447, c_sgnC T i 48 (by omega) (by decide) (fun y => cP rfl ?_) (fun y x hx => cN hx (c_bd T 3 i hi (by decide) ?_))⟩
  · unfold bv at H
    rw [if_pos y] at H
    exact H
  · unfold bv at H
    rw [if_neg y] at H
    exact H
theorem c_whole {K : Int32 → Mem → Prop} (T : TX M tl tx) (i n : Nat) (hn : n ≤ 5) (hd : ∀ u, u < n → isD tl tx (i + u)) (hi : i < 2 ^ 20) (H : K (nI (vlT tx i n)) M) : w_X4_wholeIn 457 M 447 (nI i) (nI (i + n)) K := by
  refine lpU (fun f' j (_ : Unit) => w_X4_wholeIn_L5 457 K f' M 447 (nI (i + n)) (nI (vlT tx i j)) (nI (i + j))) (fun _ _ => True) n ?_ ?_ 4000 0 () (by omega) (by omega) trivial
  · intro f' _ _
    exact cT (Int32.le_refl _) H
  · intro f' j _ hj _ ih
    obtain ⟨d1, d2, d3⟩ := hd j hj
    refine pk_le (i + n) (i + j) (fun y => by omega) (fun _ => ⟨k447, c_signY T (i + j) d1 (m_eq (m_eq ?_))⟩)
    have e1 : nI (vlT tx i j) * (10 : Int32) + (nI (tx (i + j)) - (48 : Int32)) = nI (vlT tx i (j + 1)) := by
      rw [show nI (tx (i + j)) - (48 : Int32) = nI (tx (i + j) - 48) from pk_sub (b := 48) d2, show nI (vlT tx i j) * (10 : Int32) = nI (vlT tx i j * 10) from pk_mul _ 10, nI_add, vl_succ, Nat.mul_comm]
    rw [e1, nI_1, show i + j + 1 = i + (j + 1) by omega]
    exact ih () trivial
