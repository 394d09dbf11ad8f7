/-! THE PURE PART, 8: the class's cells, its readers -/
variable {zz : Nat}
variable {M : Mem} {c : Nat}
def Car (c : Nat) : Prop := c = 2 ∨ c = 77 ∨ c = 151 ∨ c = 225 ∨ c = 299 ∨ c = 373
theorem kc (h : Car c) (j : Nat) (hj : j < 74) : c + j ≤ (448 + zz) ∧ kd (c + j) = kCar j := by
  have h1 : ∀ j, j < 74 → kd (2 + j) = kCar j := by decide +kernel
  have h2 : ∀ j, j < 74 → kd (77 + j) = kCar j := by decide +kernel
  have h3 : ∀ j, j < 74 → kd (151 + j) = kCar j := by decide +kernel
  have h4 : ∀ j, j < 74 → kd (225 + j) = kCar j := by decide +kernel
  have h5 : ∀ j, j < 74 → kd (299 + j) = kCar j := by decide +kernel
  have h6 : ∀ j, j < 74 → kd (373 + j) = kCar j := by decide +kernel
  rcases h with h | h | h | h | h | h <;> subst h
  · exact ⟨by omega, h1 j hj⟩
  · exact ⟨by omega, h2 j hj⟩
  · exact ⟨by omega, h3 j hj⟩
  · exact ⟨by omega, h4 j hj⟩
  · exact ⟨by omega, h5 j hj⟩
  · exact ⟨by omega, h6 j hj⟩
theorem Car.pos (h : Car c) : 0 < c := by unfold Car at h; omega
theorem kc0 (h : Car c) : c ≤ (448 + zz) ∧ kd c = (0, 0) := kc (zz := zz) h 0 (by decide)
theorem kcP (h : Car c) (i : Nat) (hi : i < 3) : c + 1 + i ≤ (448 + zz) ∧ kd (c + 1 + i) = (3, 0) := by
  have e : c + 1 + i = c + (1 + i) := by omega
  rw [e]
  refine ⟨(kc (zz := zz) h _ (by omega)).1, (kc (zz := zz) h _ (by omega)).2.trans ?_⟩
  unfold kCar
  rw [if_neg (by omega), if_pos (by omega)]
theorem kcH (h : Car c) : c + 4 ≤ (448 + zz) ∧ kd (c + 4) = (10, 8) := kc (zz := zz) h 4 (by decide)
theorem kcA (h : Car c) : c + 13 ≤ (448 + zz) ∧ kd (c + 13) = (11, 60) := kc (zz := zz) h 13 (by decide)
theorem kch (h : Car c) (i : Nat) (hi : i < 8) : c + 5 + i ≤ (448 + zz) ∧ kd (c + 5 + i) = (1, 0) := by
  have e : c + 5 + i = c + (5 + i) := by omega
  rw [e]
  refine ⟨(kc (zz := zz) h _ (by omega)).1, (kc (zz := zz) h _ (by omega)).2.trans ?_⟩
  unfold kCar
  rw [if_neg (by omega), if_neg (by omega), if_neg (by omega), if_pos (by omega)]
theorem kcp (h : Car c) (i : Nat) (hi : i < 60) : c + 14 + i ≤ (448 + zz) ∧ kd (c + 14 + i) = (2, 0) := by
  have e : c + 14 + i = c + (14 + i) := by omega
  rw [e]
  refine ⟨(kc (zz := zz) h _ (by omega)).1, (kc (zz := zz) h _ (by omega)).2.trans ?_⟩
  unfold kCar
  rw [if_neg (by omega), if_neg (by omega), if_neg (by omega), if_neg (by omega), if_neg (by omega)]
/-- the shape of a carousel -/
def Sh (M : Mem) (c : Nat) : Prop := Car c ∧ (gR M c 0 = c + 1 ∧ gR M c 1 = c + 2 ∧ gR M c 2 = c + 3 ∧ gR M c 3 = c + 4 ∧ gR M c 4 = c + 13) ∧ (∀ h, h < 8 → gR M (c + 4) h = c + 5 + h ∧ gI M (c + 5 + h) 0 = nI h) ∧ (∀ p, p < 60 → gR M (c + 13) p = c + 14 + p ∧ gI M (c + 14 + p) 0 = nI p) ∧ (gL M (c + 1) 0 = 4607182418800017408 ∧ gL M (c + 1) 1 = 4652007308841189376 ∧ gL M (c + 2) 0 = 0 ∧ gL M (c + 2) 1 = 4696837146684686336 ∧ gL M (c + 3) 0 = 0 ∧ gL M (c + 3) 1 = 4696837146684686336)
theorem a_idx {B : Nat → Prop} {i : Int32} (r k L j v : Nat) (hk : r ≤ (448 + zz) ∧ kd r = (k, L)) (h10 : 10 ≤ k ∧ k < 13) (hi : i = nI j) (hj : j < L) (hL : L < 2 ^ 31) (e : gR M r j = v) (h : B v) : (r ≤ (448 + zz) ∧ (10 ≤ (kd r).1 ∧ (kd r).1 < 13) ∧ vp_in i (kd r).2) ∧ ∀ r', r' = gR M r (Int32.toNatClampNeg i) → B r' := by
  subst hi
  refine ⟨⟨hk.1, by rw [hk.2]; exact h10, by rw [hk.2]; exact vp_in_nI hj hL⟩, fun x hx => ?_⟩
  rw [nI_clamp (by omega), e] at hx
  rw [hx]; exact h
theorem a_len {B : Prop} {r k L : Nat} (hk : r ≤ (448 + zz) ∧ kd r = (k, L)) (h7 : 7 ≤ k ∧ k < 13) (h : B) : (r ≤ (448 + zz) ∧ 7 ≤ (kd r).1 ∧ (kd r).1 < 13) ∧ B := ⟨⟨hk.1, by rw [hk.2]; exact h7.1, by rw [hk.2]; exact h7.2⟩, h⟩
theorem a_ln {r k L : Nat} (hk : r ≤ (448 + zz) ∧ kd r = (k, L)) : nI (kd r).2 = nI L := by rw [hk.2]
theorem c_headN {K : Nat → Mem → Prop} (S : Sh M c) {x : Int32} {n : Nat} (h6 : gI M c 6 = nI n) (hx : x < 0 ∨ nI n ≤ x) (H : K 0 M) : w_X0_headAt (448 + zz) M c x K := by
  refine ⟨fun _ => H, fun z => ⟨kc0 (zz := zz) S.1, ?_⟩⟩
  rw [h6]
  exact cT (hx.resolve_left z) H
theorem c_headY {K : Nat → Mem → Prop} (S : Sh M c) {n : Nat} (h6 : gI M c 6 = nI n) (h8 : n ≤ 8) (j : Nat) (hj : j < n) (H : K (c + 5 + j) M) : w_X0_headAt (448 + zz) M c (nI j) K := by
  obtain ⟨C, ⟨r0, r1, r2, r3, r4⟩, hh, hp, -⟩ := S
  refine cF (nI_pos (by omega)) ⟨kc0 (zz := zz) C, ?_⟩
  rw [h6]
  refine pk_le n j (fun z => by omega) (fun _ => m_rR r3 (a_len (kcH (zz := zz) C) (by decide) ?_))
  rw [a_ln (kcH (zz := zz) C)]
  exact pk_le 8 j (fun z => by omega) (fun _ => m_rR r3 (a_idx (c + 4) 10 8 j _ (kcH (zz := zz) C) (by decide) rfl (by omega) (by decide) (hh j (by omega)).1 H))
theorem c_partN {K : Nat → Mem → Prop} (S : Sh M c) {x : Int32} {n : Nat} (h7 : gI M c 7 = nI n) (hx : x < 0 ∨ nI n ≤ x) (H : K 0 M) : w_X0_partAt (448 + zz) M c x K := by
  refine ⟨fun _ => H, fun z => ⟨kc0 (zz := zz) S.1, ?_⟩⟩
  rw [h7]
  exact cT (hx.resolve_left z) H
theorem c_partY {K : Nat → Mem → Prop} (S : Sh M c) {n : Nat} (h7 : gI M c 7 = nI n) (h8 : n ≤ 60) (j : Nat) (hj : j < n) (H : K (c + 14 + j) M) : w_X0_partAt (448 + zz) M c (nI j) K := by
  obtain ⟨C, ⟨r0, r1, r2, r3, r4⟩, hh, hp, -⟩ := S
  refine cF (nI_pos (by omega)) ⟨kc0 (zz := zz) C, ?_⟩
  rw [h7]
  refine pk_le n j (fun z => by omega) (fun _ => m_rR r4 (a_len (kcA (zz := zz) C) (by decide) ?_))
  rw [a_ln (kcA (zz := zz) C)]
  exact pk_le 60 j (fun z => by omega) (fun _ => m_rR r4 (a_idx (c + 13) 11 60 j _ (kcA (zz := zz) C) (by decide) rfl (by omega) (by decide) (hp j (by omega)).1 H))
theorem c_pressN {K : Nat → Mem → Prop} {x : Int32} (h0 : x ≠ 0) (h1 : x ≠ 1) (h2 : x ≠ 2) (H : K 0 M) : w_X0_pressureAt (448 + zz) M c x K := cF h0 (cF h1 (cF h2 H))
theorem c_pressY {K : Nat → Mem → Prop} (S : Sh M c) (i : Nat) (hi : i < 3) (H : K (c + 1 + i) M) : w_X0_pressureAt (448 + zz) M c (nI i) K := by
  obtain ⟨C, ⟨r0, r1, r2, r3, r4⟩, -⟩ := S
  rcases (show i = 0 ∨ i = 1 ∨ i = 2 by omega) with e | e | e <;> subst e
  · exact cT rfl ⟨kc0 (zz := zz) C, m_rR r0 H⟩
  · exact cF (by decide) (cT rfl ⟨kc0 (zz := zz) C, m_rR r1 H⟩)
  · exact cF (by decide) (cF (by decide) (cT rfl ⟨kc0 (zz := zz) C, m_rR r2 H⟩))
/-- how many of the first so many places hold a number -/
def cK (f : Nat → Int32) (s : Int32) : Nat → Nat
  | 0 => 0
  | n + 1 => cK f s n + (if f n = s then 1 else 0)
theorem c_partsIn {K : Int32 → Mem → Prop} (S : Sh M c) (s : Int32) (H : K (nI (cK (fun p => gI M (c + 14 + p) 4) s 60)) M) : w_X0_partsIn (448 + zz) M c s K := by
  obtain ⟨C, ⟨r0, r1, r2, r3, r4⟩, hh, hp, -⟩ := S
  refine ⟨kc0 (zz := zz) C, m_rR r4 (a_len (kcA (zz := zz) C) (by decide) (m_eq ?_))⟩
  rw [a_ln (kcA (zz := zz) C)]
  refine lpU (fun f i (_ : Unit) => w_X0_partsIn_L14 (448 + zz) K f M s (nI (cK (fun p => gI M (c + 14 + p) 4) s i)) (c + 13) (nI 60) (nI i)) (fun _ _ => True) 60 ?_ ?_ 4000 0 () (by omega) (by omega) trivial
  · intro f _ _
    exact pk_le 60 60 (fun _ => H) (fun z => by omega)
  · intro f i _ hi _ ih
    refine pk_le 60 i (fun z => by omega) (fun _ => a_idx (c + 13) 11 60 i _ (kcA (zz := zz) C) (by decide) rfl hi (by decide) (hp i hi).1 ⟨kcp (zz := zz) C i hi, ?_⟩)
    have ih := ih () trivial
    unfold cK at ih
    refine ⟨fun z => m_eq ?_, fun z => m_eq (m_eq ?_)⟩
    · rw [if_neg z] at ih
      rw [nI_1]; exact ih
    · rw [if_pos z] at ih
      rw [nI_1, nI_1]; exact ih
theorem c_partsRejectedFor {K : Int32 → Mem → Prop} (S : Sh M c) (s : Int32) (H : K (nI (cK (fun p => gI M (c + 14 + p) 10) s 60)) M) : w_X0_partsRejectedFor (448 + zz) M c s K := by
  obtain ⟨C, ⟨r0, r1, r2, r3, r4⟩, hh, hp, -⟩ := S
  refine ⟨kc0 (zz := zz) C, m_rR r4 (a_len (kcA (zz := zz) C) (by decide) (m_eq ?_))⟩
  rw [a_ln (kcA (zz := zz) C)]
  refine lpU (fun f i (_ : Unit) => w_X0_partsRejectedFor_L14 (448 + zz) K f M s (nI (cK (fun p => gI M (c + 14 + p) 10) s i)) (c + 13) (nI 60) (nI i)) (fun _ _ => True) 60 ?_ ?_ 4000 0 () (by omega) (by omega) trivial
  · intro f _ _
    exact pk_le 60 60 (fun _ => H) (fun z => by omega)
  · intro f i _ hi _ ih
    refine pk_le 60 i (fun z => by omega) (fun _ => a_idx (c + 13) 11 60 i _ (kcA (zz := zz) C) (by decide) rfl hi (by decide) (hp i hi).1 ⟨kcp (zz := zz) C i hi, ?_⟩)
    have ih := ih () trivial
    unfold cK at ih
    refine ⟨fun z => m_eq ?_, fun z => m_eq (m_eq ?_)⟩
    · rw [if_neg z] at ih
      rw [nI_1]; exact ih
    · rw [if_pos z] at ih
      rw [nI_1, nI_1]; exact ih
def sumK (f : Nat → Int32) : Nat → Int32
  | 0 => 0
  | n + 1 => sumK f n + f n
theorem c_testsEnded {K : Int32 → Mem → Prop} (S : Sh M c) (H : K (sumK (fun h => gI M (c + 5 + h) 10) 8) M) : w_X0_testsEnded (448 + zz) M c K := by
  obtain ⟨C, ⟨r0, r1, r2, r3, r4⟩, hh, hp, -⟩ := S
  refine ⟨kc0 (zz := zz) C, m_rR r3 (a_len (kcH (zz := zz) C) (by decide) (m_eq ?_))⟩
  rw [a_ln (kcH (zz := zz) C)]
  refine lpU (fun f i (_ : Unit) => w_X0_testsEnded_L13 (448 + zz) K f M (sumK (fun h => gI M (c + 5 + h) 10) i) (c + 4) (nI 8) (nI i)) (fun _ _ => True) 8 ?_ ?_ 4000 0 () (by omega) (by omega) trivial
  · intro f _ _
    exact pk_le 8 8 (fun _ => H) (fun z => by omega)
  · intro f i _ hi _ ih
    refine pk_le 8 i (fun z => by omega) (fun _ => a_idx (c + 4) 10 8 i _ (kcH (zz := zz) C) (by decide) rfl hi (by decide) (hh i hi).1 ⟨kch (zz := zz) C i hi, m_eq (m_eq ?_)⟩)
    rw [nI_1]; exact ih () trivial
theorem c_testsRepeated {K : Int32 → Mem → Prop} (S : Sh M c) (H : K (sumK (fun h => gI M (c + 5 + h) 13) 8) M) : w_X0_testsRepeated (448 + zz) M c K := by
  obtain ⟨C, ⟨r0, r1, r2, r3, r4⟩, hh, hp, -⟩ := S
  refine ⟨kc0 (zz := zz) C, m_rR r3 (a_len (kcH (zz := zz) C) (by decide) (m_eq ?_))⟩
  rw [a_ln (kcH (zz := zz) C)]
  refine lpU (fun f i (_ : Unit) => w_X0_testsRepeated_L13 (448 + zz) K f M (sumK (fun h => gI M (c + 5 + h) 13) i) (c + 4) (nI 8) (nI i)) (fun _ _ => True) 8 ?_ ?_ 4000 0 () (by omega) (by omega) trivial
  · intro f _ _
    exact pk_le 8 8 (fun _ => H) (fun z => by omega)
  · intro f i _ hi _ ih
    refine pk_le 8 i (fun z => by omega) (fun _ => a_idx (c + 4) 10 8 i _ (kcH (zz := zz) C) (by decide) rfl hi (by decide) (hh i hi).1 ⟨kch (zz := zz) C i hi, m_eq (m_eq ?_)⟩)
    rw [nI_1]; exact ih () trivial
theorem c_takes {K : Int32 → Mem → Prop} (C : Car c) (h p f g : Nat) (hh : h < 8) (hp : p < 60) (e1 : gI M (c + 5 + h) 4 = nI f) (e2 : gI M (c + 14 + p) 1 = nI g) (hf : f ≤ 2) (hg : g ≤ 1) (HT : (f = 0 ∨ f = 1 + g) → K 1 M) (HF : ¬ (f = 0 ∨ f = 1 + g) → K 0 M) : w_X1_takes (448 + zz) M (c + 5 + h) (c + 14 + p) K := by
  refine ⟨kch (zz := zz) C h hh, ?_⟩
  rw [e1, e2]
  rcases (show f = 0 ∨ f = 1 ∨ f = 2 by omega) with e | e | e <;> subst e
  · exact cT rfl (HT (Or.inl rfl))
  · refine cF (by decide) (cN (by decide) ⟨kcp (zz := zz) C p hp, ?_⟩)
    rcases (show g = 0 ∨ g = 1 by omega) with e | e <;> subst e
    · exact cP rfl (HT (Or.inr rfl))
    · exact cN (by decide) (HF (by decide))
  · refine cF (by decide) (cP rfl ⟨kcp (zz := zz) C p hp, ?_⟩)
    rcases (show g = 0 ∨ g = 1 by omega) with e | e <;> subst e
    · exact cN (by decide) (HF (by decide))
    · exact cP rfl (HT (Or.inr rfl))

