/-! THE PURE PART, 7: the reference's copies: record, undo, keep, restore -/
variable {A M : Mem} {N : Nat → Nat} {D : Nat → UInt64}
def cpI (M : Mem) (r o : Nat) (f : Nat → Int32) (i : Nat) : Mem := (fun a j => if a = r ∧ o ≤ j ∧ j < o + i then f (j - o) else M.1 a j, M.2)
def cpD (M : Mem) (r o : Nat) (f : Nat → UInt64) (i : Nat) : Mem := (M.1, fun a j => if a = r ∧ o ≤ j ∧ j < o + i then f (j - o) else M.2.1 a j, M.2.2)
theorem gI_cpI (M : Mem) (r o : Nat) (f : Nat → Int32) (i a j : Nat) : gI (cpI M r o f i) a j = if a = r ∧ o ≤ j ∧ j < o + i then f (j - o) else gI M a j := rfl
theorem gD_cpD (M : Mem) (r o : Nat) (f : Nat → UInt64) (i a j : Nat) : gD (cpD M r o f i) a j = if a = r ∧ o ≤ j ∧ j < o + i then f (j - o) else gD M a j := rfl
theorem gI_cpN {M : Mem} {r o : Nat} {f : Nat → Int32} {i a j : Nat} (h : ¬ (a = r ∧ o ≤ j ∧ j < o + i)) : gI (cpI M r o f i) a j = gI M a j := if_neg h
theorem gD_cpN {M : Mem} {r o : Nat} {f : Nat → UInt64} {i a j : Nat} (h : ¬ (a = r ∧ o ≤ j ∧ j < o + i)) : gD (cpD M r o f i) a j = gD M a j := if_neg h
theorem gI_cpY {M : Mem} {r o : Nat} {f : Nat → Int32} {i j : Nat} (h : j < i) : gI (cpI M r o f i) r (o + j) = f j := by
  rw [gI_cpI, if_pos ⟨rfl, by omega, by omega⟩, Nat.add_sub_cancel_left]
theorem gD_cpY {M : Mem} {r o : Nat} {f : Nat → UInt64} {i j : Nat} (h : j < i) : gD (cpD M r o f i) r (o + j) = f j := by
  rw [gD_cpD, if_pos ⟨rfl, by omega, by omega⟩, Nat.add_sub_cancel_left]
theorem cpI_0 (M : Mem) (r o : Nat) (f : Nat → Int32) : cpI M r o f 0 = M := by
  unfold cpI
  refine Prod.ext ?_ rfl
  funext a j
  exact if_neg (by omega)
theorem cpD_0 (M : Mem) (r o : Nat) (f : Nat → UInt64) : cpD M r o f 0 = M := by
  unfold cpD
  refine Prod.ext rfl (Prod.ext ?_ rfl)
  funext a j
  exact if_neg (by omega)
theorem cpI_s (M : Mem) (r o : Nat) (f : Nat → Int32) (i : Nat) : sI (cpI M r o f i) r (o + i) (f i) = cpI M r o f (i + 1) := by
  unfold cpI sI
  refine Prod.ext ?_ rfl
  funext a j
  dsimp only
  by_cases e : a = r ∧ j = o + i
  · rw [if_pos e, if_pos ⟨e.1, by omega, by omega⟩, e.2, Nat.add_sub_cancel_left]
  · rw [if_neg e]
    by_cases g : a = r ∧ o ≤ j ∧ j < o + i
    · rw [if_pos g, if_pos ⟨g.1, by omega, by omega⟩]
    · rw [if_neg g, if_neg (fun z => g ⟨z.1, z.2.1, by have := z.2.2; have : j ≠ o + i := fun y => e ⟨z.1, y⟩; omega⟩)]
theorem cpD_s (M : Mem) (r o : Nat) (f : Nat → UInt64) (i : Nat) : sD (cpD M r o f i) r (o + i) (f i) = cpD M r o f (i + 1) := by
  unfold cpD sD
  refine Prod.ext rfl (Prod.ext ?_ rfl)
  funext a j
  dsimp only
  by_cases e : a = r ∧ j = o + i
  · rw [if_pos e, if_pos ⟨e.1, by omega, by omega⟩, e.2, Nat.add_sub_cancel_left]
  · rw [if_neg e]
    by_cases g : a = r ∧ o ≤ j ∧ j < o + i
    · rw [if_pos g, if_pos ⟨g.1, by omega, by omega⟩]
    · rw [if_neg g, if_neg (fun z => g ⟨z.1, z.2.1, by have := z.2.2; have : j ≠ o + i := fun y => e ⟨z.1, y⟩; omega⟩)]
/-- rows over any cell -/
theorem m_rI {P : Int32 → Prop} {i : Int32} (r c L j : Nat) (hk : r ≤ 457 ∧ kd r = (c, L)) (hi : i = nI j) (hj : j < L) (hL : L < 2 ^ 31) (h : P (gI M r j)) : (r ≤ 457 ∧ (kd r).1 = c ∧ vp_in i (kd r).2) ∧ ∀ x, x = gI M r (Int32.toNatClampNeg i) → P x := by
  subst hi
  refine ⟨⟨hk.1, by rw [hk.2], by rw [hk.2]; exact vp_in_nI hj hL⟩, fun x hx => ?_⟩
  rw [nI_clamp (by omega)] at hx
  rw [hx]; exact h
theorem m_rD {P : UInt64 → Prop} {i : Int32} (r c L j : Nat) (hk : r ≤ 457 ∧ kd r = (c, L)) (hi : i = nI j) (hj : j < L) (hL : L < 2 ^ 31) (h : P (gD M r j)) : (r ≤ 457 ∧ (kd r).1 = c ∧ vp_in i (kd r).2) ∧ ∀ x, x = gD M r (Int32.toNatClampNeg i) → P x := by
  subst hi
  refine ⟨⟨hk.1, by rw [hk.2], by rw [hk.2]; exact vp_in_nI hj hL⟩, fun x hx => ?_⟩
  rw [nI_clamp (by omega)] at hx
  rw [hx]; exact h
theorem m_wI {P : Mem → Prop} {i v : Int32} (r c L j : Nat) (hk : r ≤ 457 ∧ kd r = (c, L)) (hi : i = nI j) (hj : j < L) (hL : L < 2 ^ 31) (h : P (sI M r j v)) : (r ≤ 457 ∧ (kd r).1 = c ∧ vp_in i (kd r).2) ∧ ∀ M2, M2 = sI M r (Int32.toNatClampNeg i) v → P M2 := by
  subst hi
  refine ⟨⟨hk.1, by rw [hk.2], by rw [hk.2]; exact vp_in_nI hj hL⟩, fun x hx => ?_⟩
  rw [nI_clamp (by omega)] at hx
  rw [hx]; exact h
theorem m_wD {P : Mem → Prop} {i : Int32} {v : UInt64} (r c L j : Nat) (hk : r ≤ 457 ∧ kd r = (c, L)) (hi : i = nI j) (hj : j < L) (hL : L < 2 ^ 31) (h : P (sD M r j v)) : (r ≤ 457 ∧ (kd r).1 = c ∧ vp_in i (kd r).2) ∧ ∀ M2, M2 = sD M r (Int32.toNatClampNeg i) v → P M2 := by
  subst hi
  refine ⟨⟨hk.1, by rw [hk.2], by rw [hk.2]; exact vp_in_nI hj hL⟩, fun x hx => ?_⟩
  rw [nI_clamp (by omega)] at hx
  rw [hx]; exact h
theorem m_rR {B : Nat → Prop} {r k v : Nat} (e : gR M r k = v) (h : B v) : ∀ x, x = gR M r k → B x := fun x hx => by rw [hx, e]; exact h
theorem m_eq {α : Type} {B : α → Prop} {v : α} (h : B v) : ∀ x, x = v → B x := fun x hx => by rw [hx]; exact h
theorem k450 : 450 ≤ 457 ∧ kd 450 = (7, 632) := by decide
theorem k451 : 451 ≤ 457 ∧ kd 451 = (7, 2528) := by decide
theorem k452 : 452 ≤ 457 ∧ kd 452 = (7, 632) := by decide
theorem k453 : 453 ≤ 457 ∧ kd 453 = (8, 159) := by decide
theorem k454 : 454 ≤ 457 ∧ kd 454 = (8, 636) := by decide
theorem k455 : 455 ≤ 457 ∧ kd 455 = (8, 159) := by decide
theorem k456 : 456 ≤ 457 ∧ kd 456 = (9, 60) := by decide
theorem k457 : 457 ≤ 457 ∧ kd 457 = (7, 42) := by decide
/-- the now row and its doubles, put at a place of the history -/
def recM (M : Mem) (k : Nat) : Mem := sI (cpD (cpI M 451 (632 * k) (gI M 450) 632) 454 (159 * k) (gD M 453) 159) 449 6 (nI (k + 1))
theorem r_rec82 {K : Mem → Prop} (F : FX6 M) (k : Nat) (hk : k ≤ 3) (h6 : gI M 449 6 = nI k) (H : K (recM M k)) : w_X6_record_L82 457 K 4000 M 449 0 := by
  obtain ⟨F0, F1, F2, F3, F4, F5, F9, F12⟩ := F
  refine lpU (fun f i M' => w_X6_record_L82 457 K f M' 449 (nI i)) (fun i M' => M' = cpI M 451 (632 * k) (gI M 450) i) 632 ?_ ?_ 4000 0 M (by omega) (by omega) (cpI_0 _ _ _ _).symm
  · intro f M' hM
    refine pk_le 632 632 (fun _ => ?_) (fun z => by omega)
    subst hM
    refine lpU (fun f i M' => w_X6_record_L118 457 K f M' 449 (nI i)) (fun i M' => M' = cpD (cpI M 451 (632 * k) (gI M 450) 632) 454 (159 * k) (gD M 453) i) 159 ?_ ?_ 4000 0 _ (by omega) (by omega) (cpD_0 _ _ _ _).symm
    · intro f M' hM
      subst hM
      refine pk_le 159 159 (fun _ => ⟨k449, m_eq ?_⟩) (fun z => by omega)
      show K (sI _ 449 6 (gI M 449 6 + 1))
      rw [h6, nI_1]; exact H
    · intro f i M' hi hM ih
      subst hM
      refine pk_le 159 i (fun z => by omega) (fun _ => ⟨k449, m_rR F4 (m_rR F3 (m_rD 453 8 159 i k453 rfl hi (by decide) (m_wD 454 8 636 (159 * k + i) k454 ?_ (by omega) (by decide) (m_eq ?_))))⟩)
      · show nI 159 * gI M 449 6 + nI i = _
        rw [h6, ixM, nI_add]
      · show w_X6_record_L118 457 K f (sD _ 454 (159 * k + i) (gD _ 453 i)) 449 (nI i + 1)
        rw [gD_cpN (by omega)]
        have e : gD (cpI M 451 (632 * k) (gI M 450) 632) 453 i = gD M 453 i := rfl
        rw [e, cpD_s, nI_1]
        exact ih _ rfl
  · intro f i M' hi hM ih
    subst hM
    refine pk_le 632 i (fun z => by omega) (fun _ => ⟨k449, m_rR F1 (m_rR F0 (m_rI 450 7 632 i k450 rfl hi (by decide) (m_wI 451 7 2528 (632 * k + i) k451 ?_ (by omega) (by decide) (m_eq ?_))))⟩)
    · rw [gI_cpN (by omega), h6]
      show nI 632 * nI k + nI i = _
      rw [ixM, nI_add]
    · show w_X6_record_L82 457 K f (sI _ 451 (632 * k + i) (gI _ 450 i)) 449 (nI i + 1)
      rw [gI_cpN (by omega), cpI_s, nI_1]
      exact ih _ rfl
def shfM (M : Mem) : Mem := sI (cpD (cpI M 451 0 (fun x => gI M 451 (x + 632)) 1896) 454 0 (fun x => gD M 454 (x + 159)) 477) 449 6 (nI 3)
def rcM (M : Mem) (k : Nat) : Mem := if k = 4 then recM (shfM M) 3 else recM M k
theorem r_record {K : Mem → Prop} (F : FX6 M) (k : Nat) (hk : k ≤ 4) (h6 : gI M 449 6 = nI k) (H : K (rcM M k)) : w_X6_record 457 M 449 K := by
  refine ⟨k449, ?_⟩
  rw [h6]
  unfold rcM at H
  by_cases e : k = 4
  · rw [if_pos e] at H
    subst e
    refine cP rfl ?_
    obtain ⟨F0, F1, F2, F3, F4, F5, F9, F12⟩ := id F
    refine lpU (fun f i M' => w_X6_record_L10 457 K f M' 449 (nI i)) (fun i M' => M' = cpI M 451 0 (fun x => gI M 451 (x + 632)) i) 1896 ?_ ?_ 4000 0 M (by omega) (by omega) (cpI_0 _ _ _ _).symm
    · intro f M' hM
      refine pk_le 1896 1896 (fun _ => ?_) (fun z => by omega)
      subst hM
      refine lpU (fun f i M' => w_X6_record_L41 457 K f M' 449 (nI i)) (fun i M' => M' = cpD (cpI M 451 0 (fun x => gI M 451 (x + 632)) 1896) 454 0 (fun x => gD M 454 (x + 159)) i) 477 ?_ ?_ 4000 0 _ (by omega) (by omega) (cpD_0 _ _ _ _).symm
      · intro f M' hM
        subst hM
        refine pk_le 477 477 (fun _ => ⟨k449, m_eq ?_⟩) (fun z => by omega)
        show w_X6_record_L82 457 K 4000 (sI _ 449 6 (gI M 449 6 - 1)) 449 0
        rw [h6, nI_pred]
        exact r_rec82 (M := shfM M) F 3 (by decide) rfl H
      · intro f i M' hi hM ih
        subst hM
        refine pk_le 477 i (fun z => by omega) (fun _ => ⟨k449, m_rR F4 (m_rR F4 (m_rD 454 8 636 (i + 159) k454 (nI_add i 159) (by omega) (by decide) (m_wD 454 8 636 i k454 rfl (by omega) (by decide) (m_eq ?_))))⟩)
        have e : gD (cpI M 451 0 (fun x => gI M 451 (x + 632)) 1896) 454 (i + 159) = gD M 454 (i + 159) := rfl
        rw [gD_cpN (by omega), e]
        have hs := cpD_s (cpI M 451 0 (fun x => gI M 451 (x + 632)) 1896) 454 0 (fun x => gD M 454 (x + 159)) i
        rw [Nat.zero_add] at hs
        show w_X6_record_L41 457 K f (sD _ 454 i (gD M 454 (i + 159))) 449 (nI i + 1)
        rw [hs, nI_1]
        exact ih _ rfl
    · intro f i M' hi hM ih
      subst hM
      refine pk_le 1896 i (fun z => by omega) (fun _ => ⟨k449, m_rR F1 (m_rR F1 (m_rI 451 7 2528 (i + 632) k451 (nI_add i 632) (by omega) (by decide) (m_wI 451 7 2528 i k451 rfl (by omega) (by decide) (m_eq ?_))))⟩)
      rw [gI_cpN (by omega)]
      have hs := cpI_s M 451 0 (fun x => gI M 451 (x + 632)) i
      rw [Nat.zero_add] at hs
      show w_X6_record_L10 457 K f (sI _ 451 i (gI M 451 (i + 632))) 449 (nI i + 1)
      rw [hs, nI_1]
      exact ih _ rfl
  · rw [if_neg e] at H
    exact cN (fun z => e ((nI_eq (b := 4) (by omega) (by decide)).mp z)) (r_rec82 F k (by omega) h6 H)
/-- the reference's history: so many rows, as they were -/
def RH (M : Mem) (Hs : Nat → (Nat → Nat) × (Nat → UInt64)) (k : Nat) : Prop := gI M 449 6 = nI k ∧ ∀ i, i < k → (∀ j, j < 632 → gI M 451 (632 * i + j) = nI ((Hs i).1 j)) ∧ ∀ j, j < 159 → gD M 454 (159 * i + j) = (Hs i).2 j
def psH (Hs : Nat → (Nat → Nat) × (Nat → UInt64)) (k : Nat) (s : (Nat → Nat) × (Nat → UInt64)) : Nat → (Nat → Nat) × (Nat → UInt64) := fun i => if k = 4 then (if i < 3 then Hs (i + 1) else s) else (if i < k then Hs i else s)
def psK (k : Nat) : Nat := if k = 4 then 4 else k + 1
/-- what record leaves as it was -/
def OnR (M M' : Mem) : Prop := (∀ r k, r ≠ 451 → (r = 449 → k ≠ 6) → gI M' r k = gI M r k) ∧ (∀ r k, r ≠ 454 → gD M' r k = gD M r k) ∧ M'.2.2 = M.2.2
theorem onR_rec (M : Mem) (k : Nat) : OnR M (recM M k) := by
  refine ⟨fun r j h1 h2 => ?_, fun r j h1 => ?_, rfl⟩
  · unfold recM
    rw [gI_sI, if_neg (fun z => h2 z.1 z.2)]
    exact gI_cpN (fun z => h1 z.1)
  · unfold recM
    rw [gD_sI, gD_cpN (fun z => h1 z.1)]
    rfl
theorem onR_shf (M : Mem) : OnR M (shfM M) := by
  refine ⟨fun r j h1 h2 => ?_, fun r j h1 => ?_, rfl⟩
  · unfold shfM
    rw [gI_sI, if_neg (fun z => h2 z.1 z.2)]
    exact gI_cpN (M := M) (r := 451) (o := 0) (f := fun x => gI M 451 (x + 632)) (i := 1896) (fun z => h1 z.1)
  · unfold shfM
    rw [gD_sI, gD_cpN (fun z => h1 z.1)]
    rfl
theorem rh_rec {Hs : Nat → (Nat → Nat) × (Nat → UInt64)} {k : Nat} (hk : k ≤ 3) (R : Rf M N D) (h : ∀ i, i < k → (∀ j, j < 632 → gI M 451 (632 * i + j) = nI ((Hs i).1 j)) ∧ ∀ j, j < 159 → gD M 454 (159 * i + j) = (Hs i).2 j) : RH (recM M k) (fun i => if i < k then Hs i else (N, D)) (k + 1) := by
  refine ⟨rfl, fun i hi => ⟨fun j hj => ?_, fun j hj => ?_⟩⟩
  · unfold recM
    rw [gI_sI, if_neg (by omega)]
    have e : ∀ (M' : Mem) f x a b, gI (cpD M' 454 (159 * k) f x) a b = gI M' a b := fun _ _ _ _ _ => rfl
    rw [e]
    dsimp only
    by_cases q : i < k
    · rw [if_pos q, gI_cpN (by omega)]; exact (h i q).1 j hj
    · rw [if_neg q]
      obtain rfl : i = k := by omega
      rw [gI_cpY hj]; exact R.2.1 j hj
  · unfold recM
    rw [gD_sI]
    dsimp only
    by_cases q : i < k
    · rw [if_pos q, gD_cpN (by omega)]; exact (h i q).2 j hj
    · rw [if_neg q]
      obtain rfl : i = k := by omega
      rw [gD_cpY hj]; exact R.2.2 j hj
theorem OnR.rf {A B : Mem} (o : OnR A B) (R : Rf A N D) : Rf B N D := by
  obtain ⟨F, h1, h2⟩ := R
  refine ⟨?_, fun j hj => by rw [o.1 450 j (by decide) (fun z => absurd z (by decide))]; exact h1 j hj, fun j hj => by rw [o.2.1 453 j (by decide)]; exact h2 j hj⟩
  have e : ∀ r k, gR B r k = gR A r k := fun r k => congrFun (congrFun (congrArg Prod.snd o.2.2) r) k
  unfold FX6 at F ⊢
  simp only [e]
  exact F
theorem OnR.trans {A B C : Mem} (h : OnR A B) (g : OnR B C) : OnR A C := ⟨fun r k q w => (g.1 r k q w).trans (h.1 r k q w), fun r k q => (g.2.1 r k q).trans (h.2.1 r k q), g.2.2.trans h.2.2⟩
theorem q_record {K : Mem → Prop} {Hs : Nat → (Nat → Nat) × (Nat → UInt64)} {k : Nat} (R : Rf M N D) (h : RH M Hs k) (hk : k ≤ 4) (H : ∀ M', Rf M' N D → RH M' (psH Hs k (N, D)) (psK k) → OnR M M' → K M') : w_X6_record 457 M 449 K := by
  refine r_record R.1 k hk h.1 ?_
  unfold rcM
  unfold psH psK at H
  by_cases e : k = 4
  · rw [if_pos e]
    simp only [if_pos e] at H
    subst e
    have o := (onR_shf M).trans (onR_rec (shfM M) 3)
    refine H _ (o.rf R) (rh_rec (Hs := fun i => Hs (i + 1)) (by decide) ((onR_shf M).rf R) (fun i hi => ⟨fun j hj => ?_, fun j hj => ?_⟩)) o
    · unfold shfM
      rw [gI_sI, if_neg (by omega)]
      have e : ∀ (M' : Mem) f x a b, gI (cpD M' 454 0 f x) a b = gI M' a b := fun _ _ _ _ _ => rfl
      rw [e]
      have hy := gI_cpY (M := M) (r := 451) (o := 0) (f := fun x => gI M 451 (x + 632)) (i := 1896) (j := 632 * i + j) (by omega)
      rw [Nat.zero_add] at hy
      rw [hy]
      rw [show 632 * i + j + 632 = 632 * (i + 1) + j by omega]
      exact (h.2 (i + 1) (by omega)).1 j hj
    · unfold shfM
      rw [gD_sI]
      have hy := gD_cpY (M := cpI M 451 0 (fun x => gI M 451 (x + 632)) 1896) (r := 454) (o := 0) (f := fun x => gD M 454 (x + 159)) (i := 477) (j := 159 * i + j) (by omega)
      rw [Nat.zero_add] at hy
      rw [hy]
      rw [show 159 * i + j + 159 = 159 * (i + 1) + j by omega]
      exact (h.2 (i + 1) (by omega)).2 j hj
  · rw [if_neg e]
    simp only [if_neg e] at H
    exact H _ ((onR_rec M k).rf R) (rh_rec (by omega) R h.2) (onR_rec M k)
/-- a row from a place, into the present ones -/
def ldM (M : Mem) (f : Nat → Int32) (g : Nat → UInt64) : Mem := cpD (cpI M 450 0 f 632) 453 0 g 159
theorem ldM_rf {f : Nat → Int32} {g : Nat → UInt64} (F : FX6 M) (h1 : ∀ j, j < 632 → f j = nI (N j)) (h2 : ∀ j, j < 159 → g j = D j) : Rf (ldM M f g) N D ∧ On M (ldM M f g) := by
  refine ⟨⟨F, fun j hj => ?_, fun j hj => ?_⟩, fun r k q => ?_, fun r k q => ?_, rfl⟩
  · have hy := gI_cpY (M := M) (r := 450) (o := 0) (f := f) hj
    rw [Nat.zero_add] at hy
    exact hy.trans (h1 j hj)
  · have hy := gD_cpY (M := cpI M 450 0 f 632) (r := 453) (o := 0) (f := g) hj
    rw [Nat.zero_add] at hy
    exact hy.trans (h2 j hj)
  · exact gI_cpN (fun z => q z.1)
  · exact gD_cpN (fun z => q z.1)
theorem q_undo {K : Int32 → Mem → Prop} {Hs : Nat → (Nat → Nat) × (Nat → UInt64)} {k : Nat} (R : Rf M N D) (h : RH M Hs (k + 1)) (hk : k ≤ 3) (H : ∀ M' M1, M1 = sI M 449 6 (nI k) → Rf M' (Hs k).1 (Hs k).2 → On M1 M' → K (nI k) M') : w_X6_undo 457 M 449 K := by
  obtain ⟨F0, F1, F2, F3, F4, F5, F9, F12⟩ := id R.1
  refine ⟨k449, ?_⟩
  rw [h.1]
  refine cN (nI_ne0 (by omega) (by omega)) (m_eq ?_)
  rw [nI_pred]
  obtain ⟨M1, e1⟩ : ∃ M1, M1 = sI M 449 6 (nI k) := ⟨_, rfl⟩
  rw [← e1]
  have F' : FX6 M1 := by rw [e1]; exact R.1
  have h6 : gI M1 449 6 = nI k := by rw [e1]; rfl
  obtain ⟨F0, F1, F2, F3, F4, F5, F9, F12⟩ := id F'
  obtain ⟨hI, hD⟩ := h.2 k (by omega)
  refine lpU (fun f i M' => w_X6_undo_L22 457 K f M' 449 (nI i)) (fun i M' => M' = cpI M1 450 0 (fun x => gI M1 451 (632 * k + x)) i) 632 ?_ ?_ 4000 0 M1 (by omega) (by omega) (cpI_0 _ _ _ _).symm
  · intro f M' hM
    refine pk_le 632 632 (fun _ => ?_) (fun z => by omega)
    subst hM
    refine lpU (fun f i M' => w_X6_undo_L58 457 K f M' 449 (nI i)) (fun i M' => M' = cpD (cpI M1 450 0 (fun x => gI M1 451 (632 * k + x)) 632) 453 0 (fun x => gD M1 454 (159 * k + x)) i) 159 ?_ ?_ 4000 0 _ (by omega) (by omega) (cpD_0 _ _ _ _).symm
    · intro f M' hM
      subst hM
      refine pk_le 159 159 (fun _ => ⟨k449, ?_⟩) (fun z => by omega)
      have e : gI (cpD (cpI M1 450 0 (fun x => gI M1 451 (632 * k + x)) 632) 453 0 (fun x => gD M1 454 (159 * k + x)) 159) 449 6 = nI k := h6
      rw [e]
      obtain ⟨g1, g2⟩ := ldM_rf (M := M1) (f := fun x => gI M1 451 (632 * k + x)) (g := fun x => gD M1 454 (159 * k + x)) (N := (Hs k).1) (D := (Hs k).2) F' (fun j hj => by rw [e1]; exact hI j hj) (fun j hj => by rw [e1]; exact hD j hj)
      exact H _ M1 e1 g1 g2
    · intro f i M' hi hM ih
      subst hM
      refine pk_le 159 i (fun z => by omega) (fun _ => ⟨k449, m_rR F3 (m_rR F4 (m_rD 454 8 636 (159 * k + i) k454 ?_ (by omega) (by decide) (m_wD 453 8 159 i k453 rfl hi (by decide) (m_eq ?_))))⟩)
      · show nI 159 * gI M1 449 6 + nI i = _
        rw [h6, ixM, nI_add]
      · have hs := cpD_s (cpI M1 450 0 (fun x => gI M1 451 (632 * k + x)) 632) 453 0 (fun x => gD M1 454 (159 * k + x)) i
        rw [Nat.zero_add] at hs
        rw [gD_cpN (by omega)]
        show w_X6_undo_L58 457 K f (sD _ 453 i (gD M1 454 (159 * k + i))) 449 (nI i + 1)
        rw [hs, nI_1]
        exact ih _ rfl
  · intro f i M' hi hM ih
    subst hM
    refine pk_le 632 i (fun z => by omega) (fun _ => ⟨k449, m_rR F0 (m_rR F1 (m_rI 451 7 2528 (632 * k + i) k451 ?_ (by omega) (by decide) (m_wI 450 7 632 i k450 rfl hi (by decide) (m_eq ?_))))⟩)
    · rw [gI_cpN (by omega), h6]
      show nI 632 * nI k + nI i = _
      rw [ixM, nI_add]
    · have hs := cpI_s M1 450 0 (fun x => gI M1 451 (632 * k + x)) i
      rw [Nat.zero_add] at hs
      rw [gI_cpN (by omega)]
      show w_X6_undo_L22 457 K f (sI _ 450 i (gI M1 451 (632 * k + i))) 449 (nI i + 1)
      rw [hs, nI_1]
      exact ih _ rfl
/-- the reference's snapshot -/
def SLT (M : Mem) (S : Nat → Nat) (T : Nat → UInt64) : Prop := (∀ j, j < 632 → gI M 452 j = nI (S j)) ∧ ∀ j, j < 159 → gD M 455 j = T j
def kpM (M : Mem) : Mem := sI (cpD (cpI M 452 0 (gI M 450) 632) 455 0 (gD M 453) 159) 449 7 1
theorem q_keep {K : Int32 → Mem → Prop} (R : Rf M N D) (H : SLT (kpM M) N D → K (nI (N 2)) (kpM M)) : w_X6_keep 457 M 449 K := by
  obtain ⟨F0, F1, F2, F3, F4, F5, F9, F12⟩ := id R.1
  refine lpU (fun f i M' => w_X6_keep_L2 457 K f M' 449 (nI i)) (fun i M' => M' = cpI M 452 0 (gI M 450) i) 632 ?_ ?_ 4000 0 M (by omega) (by omega) (cpI_0 _ _ _ _).symm
  · intro f M' hM
    refine pk_le 632 632 (fun _ => ?_) (fun z => by omega)
    subst hM
    refine lpU (fun f i M' => w_X6_keep_L29 457 K f M' 449 (nI i)) (fun i M' => M' = cpD (cpI M 452 0 (gI M 450) 632) 455 0 (gD M 453) i) 159 ?_ ?_ 4000 0 _ (by omega) (by omega) (cpD_0 _ _ _ _).symm
    · intro f M' hM
      subst hM
      refine pk_le 159 159 (fun _ => ⟨k449, m_eq (m_rR F0 (m_rI 450 7 632 2 k450 rfl (by decide) (by decide) ?_))⟩) (fun z => by omega)
      have e : gI (sI (cpD (cpI M 452 0 (gI M 450) 632) 455 0 (gD M 453) 159) 449 7 1) 450 2 = gI M 450 2 := rfl
      rw [e, R.2.1 2 (by decide)]
      refine H ⟨fun j hj => ?_, fun j hj => ?_⟩
      · have hy := gI_cpY (M := M) (r := 452) (o := 0) (f := gI M 450) hj
        rw [Nat.zero_add] at hy
        unfold kpM
        rw [gI_sI, if_neg (by omega)]
        exact hy.trans (R.2.1 j hj)
      · have hy := gD_cpY (M := cpI M 452 0 (gI M 450) 632) (r := 455) (o := 0) (f := gD M 453) hj
        rw [Nat.zero_add] at hy
        exact hy.trans (R.2.2 j hj)
    · intro f i M' hi hM ih
      subst hM
      refine pk_le 159 i (fun z => by omega) (fun _ => ⟨k449, m_rR F5 (m_rR F3 (m_rD 453 8 159 i k453 rfl hi (by decide) (m_wD 455 8 159 i k455 rfl hi (by decide) (m_eq ?_))))⟩)
      have hs := cpD_s (cpI M 452 0 (gI M 450) 632) 455 0 (gD M 453) i
      rw [Nat.zero_add] at hs
      rw [gD_cpN (by omega)]
      show w_X6_keep_L29 457 K f (sD _ 455 i (gD M 453 i)) 449 (nI i + 1)
      rw [hs, nI_1]
      exact ih _ rfl
  · intro f i M' hi hM ih
    subst hM
    refine pk_le 632 i (fun z => by omega) (fun _ => ⟨k449, m_rR F2 (m_rR F0 (m_rI 450 7 632 i k450 rfl hi (by decide) (m_wI 452 7 632 i k452 rfl hi (by decide) (m_eq ?_))))⟩)
    have hs := cpI_s M 452 0 (gI M 450) i
    rw [Nat.zero_add] at hs
    rw [gI_cpN (by omega)]
    show w_X6_keep_L2 457 K f (sI _ 452 i (gI M 450 i)) 449 (nI i + 1)
    rw [hs, nI_1]
    exact ih _ rfl
theorem q_restore {K : Int32 → Mem → Prop} {S : Nat → Nat} {T : Nat → UInt64} (F : FX6 M) (h : SLT M S T) (H : ∀ M', Rf M' S T → On M M' → K (nI (S 2)) M') : w_X6_restore_L16 457 K 4000 M 449 0 := by
  obtain ⟨F0, F1, F2, F3, F4, F5, F9, F12⟩ := id F
  refine lpU (fun f i M' => w_X6_restore_L16 457 K f M' 449 (nI i)) (fun i M' => M' = cpI M 450 0 (gI M 452) i) 632 ?_ ?_ 4000 0 M (by omega) (by omega) (cpI_0 _ _ _ _).symm
  · intro f M' hM
    refine pk_le 632 632 (fun _ => ?_) (fun z => by omega)
    subst hM
    refine lpU (fun f i M' => w_X6_restore_L43 457 K f M' 449 (nI i)) (fun i M' => M' = cpD (cpI M 450 0 (gI M 452) 632) 453 0 (gD M 455) i) 159 ?_ ?_ 4000 0 _ (by omega) (by omega) (cpD_0 _ _ _ _).symm
    · intro f M' hM
      subst hM
      obtain ⟨g1, g2⟩ := ldM_rf (M := M) (f := gI M 452) (g := gD M 455) (N := S) (D := T) F h.1 h.2
      refine pk_le 159 159 (fun _ => ⟨k449, m_rR F0 (m_rI 450 7 632 2 k450 rfl (by decide) (by decide) ?_)⟩) (fun z => by omega)
      have e := g1.2.1 2 (by decide)
      unfold ldM at e
      rw [e]
      exact H _ g1 g2
    · intro f i M' hi hM ih
      subst hM
      refine pk_le 159 i (fun z => by omega) (fun _ => ⟨k449, m_rR F3 (m_rR F5 (m_rD 455 8 159 i k455 rfl hi (by decide) (m_wD 453 8 159 i k453 rfl hi (by decide) (m_eq ?_))))⟩)
      have hs := cpD_s (cpI M 450 0 (gI M 452) 632) 453 0 (gD M 455) i
      rw [Nat.zero_add] at hs
      rw [gD_cpN (by omega)]
      show w_X6_restore_L43 457 K f (sD _ 453 i (gD M 455 i)) 449 (nI i + 1)
      rw [hs, nI_1]
      exact ih _ rfl
  · intro f i M' hi hM ih
    subst hM
    refine pk_le 632 i (fun z => by omega) (fun _ => ⟨k449, m_rR F0 (m_rR F2 (m_rI 452 7 632 i k452 rfl hi (by decide) (m_wI 450 7 632 i k450 rfl hi (by decide) (m_eq ?_))))⟩)
    have hs := cpI_s M 450 0 (gI M 452) i
    rw [Nat.zero_add] at hs
    rw [gI_cpN (by omega)]
    show w_X6_restore_L16 457 K f (sI _ 450 i (gI M 452 i)) 449 (nI i + 1)
    rw [hs, nI_1]
    exact ih _ rfl
