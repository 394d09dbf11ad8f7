/-! THE PURE PART, 9: the class's writers: memories after loops over heads and parts -/
variable {zz : Nat}
variable {M : Mem} {c : Nat}
/-- rows from a on, so many, as given -/
def bkM (M : Mem) (a n : Nat) (FI : Nat → Nat → Int32) (FD : Nat → Nat → UInt64) : Mem := (fun r k => if a ≤ r ∧ r < a + n then FI (r - a) k else M.1 r k, fun r k => if a ≤ r ∧ r < a + n then FD (r - a) k else M.2.1 r k, M.2.2)
theorem gI_bkY {a n i k : Nat} {FI : Nat → Nat → Int32} {FD : Nat → Nat → UInt64} (h : i < n) : gI (bkM M a n FI FD) (a + i) k = FI i k := by
  show (if a ≤ a + i ∧ a + i < a + n then FI (a + i - a) k else M.1 (a + i) k) = _
  rw [if_pos (by omega), Nat.add_sub_cancel_left]
theorem gD_bkY {a n i k : Nat} {FI : Nat → Nat → Int32} {FD : Nat → Nat → UInt64} (h : i < n) : gD (bkM M a n FI FD) (a + i) k = FD i k := by
  show (if a ≤ a + i ∧ a + i < a + n then FD (a + i - a) k else M.2.1 (a + i) k) = _
  rw [if_pos (by omega), Nat.add_sub_cancel_left]
theorem gI_bkN {a n r k : Nat} {FI : Nat → Nat → Int32} {FD : Nat → Nat → UInt64} (h : r < a ∨ a + n ≤ r) : gI (bkM M a n FI FD) r k = gI M r k := if_neg (by omega)
theorem gD_bkN {a n r k : Nat} {FI : Nat → Nat → Int32} {FD : Nat → Nat → UInt64} (h : r < a ∨ a + n ≤ r) : gD (bkM M a n FI FD) r k = gD M r k := if_neg (by omega)
theorem bk_0 (a : Nat) (FI : Nat → Nat → Int32) (FD : Nat → Nat → UInt64) : bkM M a 0 FI FD = M := by
  unfold bkM
  refine Prod.ext ?_ (Prod.ext ?_ rfl) <;> funext r k <;> exact if_neg (by omega)
theorem bk_s {M' : Mem} {a i : Nat} {FI : Nat → Nat → Int32} {FD : Nat → Nat → UInt64} (h1 : ∀ r k, r ≠ a + i → gI M' r k = gI (bkM M a i FI FD) r k) (h2 : ∀ k, gI M' (a + i) k = FI i k) (h3 : ∀ r k, r ≠ a + i → gD M' r k = gD (bkM M a i FI FD) r k) (h4 : ∀ k, gD M' (a + i) k = FD i k) (h5 : M'.2.2 = M.2.2) : M' = bkM M a (i + 1) FI FD := by
  refine Prod.ext ?_ (Prod.ext ?_ h5)
  · funext r k
    by_cases e : r = a + i
    · rw [e]; exact (h2 k).trans (gI_bkY (by omega)).symm
    · refine (h1 r k e).trans ?_
      show (if a ≤ r ∧ r < a + i then FI (r - a) k else M.1 r k) = (if a ≤ r ∧ r < a + (i + 1) then FI (r - a) k else M.1 r k)
      by_cases q : a ≤ r ∧ r < a + i
      · rw [if_pos q, if_pos (by omega)]
      · rw [if_neg q, if_neg (by omega)]
  · funext r k
    by_cases e : r = a + i
    · rw [e]; exact (h4 k).trans (gD_bkY (by omega)).symm
    · refine (h3 r k e).trans ?_
      show (if a ≤ r ∧ r < a + i then FD (r - a) k else M.2.1 r k) = (if a ≤ r ∧ r < a + (i + 1) then FD (r - a) k else M.2.1 r k)
      by_cases q : a ≤ r ∧ r < a + i
      · rw [if_pos q, if_pos (by omega)]
      · rw [if_neg q, if_neg (by omega)]
theorem gI_ne {M : Mem} {r k a j : Nat} {v : Int32} (h : a ≠ r ∨ j ≠ k) : gI (sI M r k v) a j = gI M a j := by rw [gI_sI, if_neg (fun z => h.elim (fun y => y z.1) (fun y => y z.2))]
theorem gD_ne {M : Mem} {r k a j : Nat} {v : UInt64} (h : a ≠ r ∨ j ≠ k) : gD (sD M r k v) a j = gD M a j := by rw [gD_sD, if_neg (fun z => h.elim (fun y => y z.1) (fun y => y z.2))]
theorem gI_eq {M : Mem} {r k : Nat} {v : Int32} : gI (sI M r k v) r k = v := by rw [gI_sI, if_pos ⟨rfl, rfl⟩]
theorem gD_eq {M : Mem} {r k : Nat} {v : UInt64} : gD (sD M r k v) r k = v := by rw [gD_sD, if_pos ⟨rfl, rfl⟩]
/-- the places of those that wait, one further; one nearer, behind a place -/
def pfI (M : Mem) (a i k : Nat) : Int32 := if k = 5 ∧ gI M (a + i) 4 = 0 then gI M (a + i) 5 + 1 else gI M (a + i) k
def trI (M : Mem) (a : Nat) (x : Int32) (i k : Nat) : Int32 := if k = 5 ∧ gI M (a + i) 4 = 0 ∧ ¬ gI M (a + i) 5 ≤ x then gI M (a + i) 5 - 1 else gI M (a + i) k
def rwI (M : Mem) (a i k : Nat) : Int32 := if gI M (a + i) 4 = 0 then (if k = 4 then 3 else if k = 5 then -5 else if k = 10 then 5 else gI M (a + i) k) else gI M (a + i) k
def idD (M : Mem) (a i k : Nat) : UInt64 := gD M (a + i) k
def idI (M : Mem) (a i k : Nat) : Int32 := gI M (a + i) k
def pfM (M : Mem) (c o : Nat) : Mem := sI (sI (bkM M (c + 14) 60 (pfI M (c + 14)) (idD M (c + 14))) o 4 0) o 5 0
theorem c_putInFront {K : Mem → Prop} (S : Sh M c) (p : Nat) (hp : p < 60) (H : K (pfM M c (c + 14 + p))) : w_X0_putInFront (448 + zz) M c (c + 14 + p) K := by
  obtain ⟨C, ⟨r0, r1, r2, r3, r4⟩, hh, hq, -⟩ := S
  refine ⟨kc0 (zz := zz) C, m_rR r4 (a_len (kcA (zz := zz) C) (by decide) (m_eq ?_))⟩
  rw [a_ln (kcA (zz := zz) C)]
  refine lpU (fun f i M' => w_X0_putInFront_L11 (448 + zz) K f M' (c + 14 + p) (c + 13) (nI 60) (nI i)) (fun i M' => M' = bkM M (c + 14) i (pfI M (c + 14)) (idD M (c + 14))) 60 ?_ ?_ 4000 0 M (by omega) (by omega) (bk_0 _ _ _).symm
  · intro f M' hM
    subst hM
    exact pk_le 60 60 (fun _ => ⟨kcp (zz := zz) C p hp, m_eq (m_eq H)⟩) (fun z => by omega)
  · intro f i M' hi hM ih
    subst hM
    have e4 : ∀ k, gI (bkM M (c + 14) i (pfI M (c + 14)) (idD M (c + 14))) (c + 14 + i) k = gI M (c + 14 + i) k := fun k => gI_bkN (by omega)
    have d4 : ∀ k, gD (bkM M (c + 14) i (pfI M (c + 14)) (idD M (c + 14))) (c + 14 + i) k = gD M (c + 14 + i) k := fun k => gD_bkN (by omega)
    refine pk_le 60 i (fun z => by omega) (fun _ => a_idx (c + 13) 11 60 i _ (kcA (zz := zz) C) (by decide) rfl hi (by decide) (hq i hi).1 ⟨kcp (zz := zz) C i hi, ?_⟩)
    rw [e4 4]
    refine ⟨fun z => m_eq ?_, fun z => m_eq (m_eq ?_)⟩
    · rw [nI_1]
      refine ih _ (bk_s (fun _ _ _ => rfl) (fun k => ?_) (fun _ _ _ => rfl) (fun k => d4 k) rfl)
      rw [e4 k]; unfold pfI; rw [if_neg (fun y => z y.2)]
    · rw [nI_1]
      refine ih _ (bk_s (fun r k hr => gI_ne (Or.inl hr)) (fun k => ?_) (fun _ _ _ => rfl) (fun k => d4 k) rfl)
      by_cases q : k = 5
      · subst q
        rw [gI_eq, e4 5]; unfold pfI; rw [if_pos ⟨rfl, z⟩]
      · rw [gI_ne (Or.inr q), e4 k]; unfold pfI; rw [if_neg (fun y => q y.1)]
/-- the row of those that wait without one, whose place it is -/
def trM (M : Mem) (c o : Nat) : Mem := sI (sI (bkM M (c + 14) 60 (trI M (c + 14) (gI M o 5)) (idD M (c + 14))) o 4 1) o 5 (-5)
theorem c_takeFromRow {K : Mem → Prop} (S : Sh M c) (p : Nat) (hp : p < 60) (H : K (trM M c (c + 14 + p))) : w_X0_takeFromRow (448 + zz) M c (c + 14 + p) K := by
  obtain ⟨C, ⟨r0, r1, r2, r3, r4⟩, hh, hq, -⟩ := S
  refine ⟨kc0 (zz := zz) C, m_rR r4 (a_len (kcA (zz := zz) C) (by decide) (m_eq ?_))⟩
  rw [a_ln (kcA (zz := zz) C)]
  have self : ∀ i, gI (bkM M (c + 14) i (trI M (c + 14) (gI M (c + 14 + p) 5)) (idD M (c + 14))) (c + 14 + p) 5 = gI M (c + 14 + p) 5 := by
    intro i
    by_cases z : p < i
    · rw [gI_bkY z]; unfold trI; rw [if_neg (fun y => y.2.2 (by first | exact Int32.le_refl _ | decide))]
    · exact gI_bkN (by omega)
  refine lpU (fun f i M' => w_X0_takeFromRow_L11 (448 + zz) K f M' (c + 14 + p) (c + 13) (nI 60) (nI i)) (fun i M' => M' = bkM M (c + 14) i (trI M (c + 14) (gI M (c + 14 + p) 5)) (idD M (c + 14))) 60 ?_ ?_ 4000 0 M (by omega) (by omega) (bk_0 _ _ _).symm
  · intro f M' hM
    subst hM
    exact pk_le 60 60 (fun _ => ⟨kcp (zz := zz) C p hp, m_eq (m_eq H)⟩) (fun z => by omega)
  · intro f i M' hi hM ih
    subst hM
    have e4 : ∀ k, gI (bkM M (c + 14) i (trI M (c + 14) (gI M (c + 14 + p) 5)) (idD M (c + 14))) (c + 14 + i) k = gI M (c + 14 + i) k := fun k => gI_bkN (by omega)
    have d4 : ∀ k, gD (bkM M (c + 14) i (trI M (c + 14) (gI M (c + 14 + p) 5)) (idD M (c + 14))) (c + 14 + i) k = gD M (c + 14 + i) k := fun k => gD_bkN (by omega)
    refine pk_le 60 i (fun z => by omega) (fun _ => a_idx (c + 13) 11 60 i _ (kcA (zz := zz) C) (by decide) rfl hi (by decide) (hq i hi).1 ⟨kcp (zz := zz) C i hi, ?_⟩)
    rw [e4 4, e4 5, self i]
    refine ⟨fun z => m_eq ?_, fun z => ⟨kcp (zz := zz) C p hp, fun y => m_eq ?_, fun y => m_eq (m_eq ?_)⟩⟩
    · rw [nI_1]
      refine ih _ (bk_s (fun _ _ _ => rfl) (fun k => ?_) (fun _ _ _ => rfl) (fun k => d4 k) rfl)
      rw [e4 k]; unfold trI; rw [if_neg (fun y => z y.2.1)]
    · rw [nI_1]
      refine ih _ (bk_s (fun _ _ _ => rfl) (fun k => ?_) (fun _ _ _ => rfl) (fun k => d4 k) rfl)
      rw [e4 k]; unfold trI; rw [if_neg (fun x => x.2.2 y)]
    · rw [nI_1]
      refine ih _ (bk_s (fun r k hr => gI_ne (Or.inl hr)) (fun k => ?_) (fun _ _ _ => rfl) (fun k => d4 k) rfl)
      by_cases q : k = 5
      · subst q
        rw [gI_eq]; unfold trI; rw [if_pos ⟨rfl, z, y⟩]
      · rw [gI_ne (Or.inr q), e4 k]; unfold trI; rw [if_neg (fun y => q y.1)]
def rwM (M : Mem) (c : Nat) : Mem := bkM M (c + 14) 60 (rwI M (c + 14)) (idD M (c + 14))
theorem c_rejectWaiting {K : Mem → Prop} (S : Sh M c) (H : K (rwM M c)) : w_X0_rejectWaiting (448 + zz) M c K := by
  obtain ⟨C, ⟨r0, r1, r2, r3, r4⟩, hh, hq, -⟩ := S
  refine ⟨kc0 (zz := zz) C, m_rR r4 (a_len (kcA (zz := zz) C) (by decide) (m_eq ?_))⟩
  rw [a_ln (kcA (zz := zz) C)]
  refine lpU (fun f i M' => w_X0_rejectWaiting_L10 (448 + zz) K f M' (c + 13) (nI 60) (nI i)) (fun i M' => M' = bkM M (c + 14) i (rwI M (c + 14)) (idD M (c + 14))) 60 ?_ ?_ 4000 0 M (by omega) (by omega) (bk_0 _ _ _).symm
  · intro f M' hM
    subst hM
    exact pk_le 60 60 (fun _ => H) (fun z => by omega)
  · intro f i M' hi hM ih
    subst hM
    have e4 : ∀ k, gI (bkM M (c + 14) i (rwI M (c + 14)) (idD M (c + 14))) (c + 14 + i) k = gI M (c + 14 + i) k := fun k => gI_bkN (by omega)
    have d4 : ∀ k, gD (bkM M (c + 14) i (rwI M (c + 14)) (idD M (c + 14))) (c + 14 + i) k = gD M (c + 14 + i) k := fun k => gD_bkN (by omega)
    refine pk_le 60 i (fun z => by omega) (fun _ => a_idx (c + 13) 11 60 i _ (kcA (zz := zz) C) (by decide) rfl hi (by decide) (hq i hi).1 ⟨kcp (zz := zz) C i hi, ?_⟩)
    rw [e4 4]
    refine ⟨fun z => m_eq ?_, fun z => ⟨kcp (zz := zz) C i hi, m_eq (m_eq (m_eq (m_eq ?_)))⟩⟩
    · rw [nI_1]
      refine ih _ (bk_s (fun _ _ _ => rfl) (fun k => ?_) (fun _ _ _ => rfl) (fun k => d4 k) rfl)
      rw [e4 k]; unfold rwI; rw [if_neg z]
    · rw [nI_1]
      refine ih _ (bk_s (fun r k hr => by rw [gI_ne (Or.inl hr), gI_ne (Or.inl hr), gI_ne (Or.inl hr)]) (fun k => ?_) (fun _ _ _ => rfl) (fun k => d4 k) rfl)
      unfold rwI
      rw [if_pos z]
      by_cases q : k = 4
      · subst q; rw [gI_ne (Or.inr (by decide)), gI_ne (Or.inr (by decide)), gI_eq]; rfl
      · rw [if_neg q]
        by_cases q5 : k = 5
        · subst q5; rw [gI_ne (Or.inr (by decide)), gI_eq]; rfl
        · rw [if_neg q5]
          by_cases q10 : k = 10
          · subst q10; rw [gI_eq]; rfl
          · rw [if_neg q10, gI_ne (Or.inr q10), gI_ne (Or.inr q5), gI_ne (Or.inr q)]; exact e4 k

