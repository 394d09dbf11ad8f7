/-! p27, 9: the parts are sound -/
variable {zz : Nat}
variable {M M' A : Mem} {b b' c h p k k' tl tl' ra rb : Nat} {s s' z z' : S3} {Hs : Nat → S3} {f f' : Bool} {q tx tx' : Nat → Nat} {N N' : Nat → Nat}
theorem mk_or (a b : Nat) : lN a ||| lN b = lN (a ||| b) := by
  apply Int64.toBitVec_inj.1
  show BitVec.ofNat 64 a ||| BitVec.ofNat 64 b = BitVec.ofNat 64 (a ||| b)
  apply BitVec.eq_of_getLsbD_eq
  intro i hi
  simp [hi]
theorem mk_set (n j i : Nat) : (n ||| 2 ^ j).testBit i = (n.testBit i || decide (i = j)) := by
  rw [Nat.testBit_or]
  by_cases h : j = i
  · subst h; simp
  · have h2 : ¬ i = j := fun e => h e.symm
    first | (simp [Nat.testBit_two_pow, h, h2]; done) | (simp [Nat.testBit_two_pow_of_ne h, h2]; done)
theorem mk_shl : ∀ n, n < 61 → (1 : Int64) <<< (Int32.toInt64 (nI n) &&& 63) = lN (2 ^ n) ∧ ((1 : Int64) <<< (Int32.toInt64 (nI n) &&& 63)) - (1 : Int64) = lN (2 ^ n - 1) := by decide +kernel
/-- the places of the first parts that wait, as bits -/
def MK (s : S3) (m p : Nat) : Prop := ∀ i, m.testBit i = true ↔ ∃ q, q < p ∧ s.1 (92 + 8 * q + 3) = 0 ∧ s.2.2 q = i
theorem mk_0 (s : S3) : MK s 0 0 := fun i => ⟨fun y => by simp at y, fun ⟨q, h, _⟩ => by omega⟩
theorem mk_n {m : Nat} (K : MK s m p) (h : s.1 (92 + 8 * p + 3) ≠ 0) : MK s m (p + 1) := fun i => by
  rw [K i]
  constructor
  · rintro ⟨q, h1, h2, h3⟩; exact ⟨q, by omega, h2, h3⟩
  · rintro ⟨q, h1, h2, h3⟩
    by_cases e : q = p
    · rw [e] at h2; exact absurd h2 h
    · exact ⟨q, by omega, h2, h3⟩
theorem mk_y {m : Nat} (K : MK s m p) (h : s.1 (92 + 8 * p + 3) = 0) : MK s (m ||| 2 ^ s.2.2 p) (p + 1) := fun i => by
  rw [mk_set, Bool.or_eq_true, K i, decide_eq_true_eq]
  constructor
  · rintro (⟨q, h1, h2, h3⟩ | e)
    · exact ⟨q, by omega, h2, h3⟩
    · exact ⟨p, by omega, h, e.symm⟩
  · rintro ⟨q, h1, h2, h3⟩
    by_cases e : q = p
    · rw [e] at h3; exact Or.inr h3.symm
    · exact Or.inl ⟨q, by omega, h2, h3⟩
theorem mk_all {m : Nat} (L : LN s.1 s.2.2) (K : MK s m (s.1 2)) : m = 2 ^ s.1 11 - 1 := by
  refine Nat.eq_of_testBit_eq (fun i => ?_)
  rw [Nat.testBit_two_pow_sub_one]
  obtain ⟨l0, l1, l2⟩ := L
  by_cases h : i < s.1 11
  · rw [decide_eq_true h]
    obtain ⟨a, b, c⟩ := l1 i h
    exact (K i).mpr ⟨_, a, b, c⟩
  · rw [decide_eq_false h]
    have : ¬ m.testBit i = true := fun y => by
      obtain ⟨q, h1, h2, h3⟩ := (K i).mp y
      have := (l2 q h1 h2).1
      omega
    simpa using this
/-- the law's two rows, behind so many parts -/
def AR (M : Mem) (ra rb : Nat) (s : S3) (p : Nat) : Prop := (∀ e, e < 4 → gI M ra e = nI (cnt (fun q => s.1 (92 + 8 * q + 3)) e p)) ∧ ∀ e, e < 6 → gI M rb e = nI (cnt (fun q => s.1 (92 + 8 * q + 7)) e p)
theorem frR_hi (r j : Nat) (v : Int32) (h : 449 ≤ r) : FrR M (sI M r j v) := fun a ha k => ⟨gI_ne (Or.inl (by omega)), rfl, rfl, rfl⟩
theorem z_valueA {K : UInt64 → Mem → Prop} (I : CI M b s Hs k z f q tl tx) (e : WEs s) (hb : b ≤ 20480) (i : Nat) (hi : i < s.1 2) (H : ∀ v, (Op.cmpValue (FP.dcmp v v) CmpOp.l = 0 ↔ s.1 (92 + 8 * i + 4) ≠ 0) → (s.1 (92 + 8 * i + 1) = 0 → s.1 (92 + 8 * i + 4) ≠ 0 → Op.cmpValue (FP.dcmp v FP.dconst0) CmpOp.l = 0) → K v M) : w_X5_value (448 + zz) M 1 (nI i) K := by
  refine z_value I hb i hi (fun h0 => H _ ⟨fun y => absurd y nan_ne, fun y => absurd h0 y⟩ (fun _ y => absurd h0 y)) (fun h1 => H _ ⟨fun _ => h1, fun _ => ?_⟩ (fun l0 _ => ?_))
  · have v := ((e.1 i hi).2.2.2 h1).1
    show Op.cmpValue (FP.Core.dcmp _ _) CmpOp.l = 0
    rw [FP.Core.dcmp_self ((FP.Core.ne_nan _).mpr ?_)]
    · rfl
    · have v : (s.2.1 (99 + i) &&& 0x7fffffffffffffff).toNat ≤ (0x7ff0000000000000 : UInt64).toNat := v
      rw [FP.Core.mask_toNat] at v
      exact v
  · rw [((e.1 i hi).2.2.2 h1).2 l0]
    decide +kernel
theorem al_p (zz : Nat) (hz : zz % 2 = 0) : kd (448 + zz + 1) = (7, 4) ∧ kd (448 + zz + 2) = (7, 6) ∧ SL (448 + zz + 1) = SL (448 + zz) + 4 ∧ SL (448 + zz + 2) = SL (448 + zz) + 10 := by
  have k1 : kd (448 + zz + 1) = (7, 4) := by
    unfold kd
    rw [if_neg (by omega), if_neg (by omega), if_neg (by omega), if_neg (by omega), if_neg (by omega), if_neg (by omega), if_neg (by omega), if_pos (by omega)]
  have k2 : kd (448 + zz + 2) = (7, 6) := by
    unfold kd
    rw [if_neg (by omega), if_neg (by omega), if_neg (by omega), if_neg (by omega), if_neg (by omega), if_neg (by omega), if_neg (by omega), if_neg (by omega)]
  have s1 : SL (448 + zz + 1) = SL (448 + zz) + 4 := by
    show SL (448 + zz) + sz (448 + zz + 1) = _
    unfold sz
    rw [k1]; rfl
  refine ⟨k1, k2, s1, ?_⟩
  show SL (448 + zz + 1) + sz (448 + zz + 2) = _
  unfold sz
  rw [k2, s1]; rfl
/-- rooms of the calls in it -/
def AL (zz : Nat) : Prop := 448 + (zz + 2) - (448 + zz) + 0 ≤ 2 ∧ SL (448 + (zz + 2)) - SL (448 + zz) + 0 ≤ 10
theorem al_ok (zz : Nat) (hz : zz % 2 = 0) : AL zz := by
  obtain ⟨-, -, -, h⟩ := al_p zz hz
  have h : SL (448 + (zz + 2)) = SL (448 + zz) + 10 := h
  unfold AL
  exact ⟨by omega, by omega⟩
theorem z_p335 {K : Int32 → Mem → Prop} (I : CI M b s Hs k z f q tl tx) (e : WEs s) (hz : zz % 2 = 0) (hra : ra = 448 + zz + 1) (R : AR M ra rb s (s.1 2)) (m : Nat) (hm : MK s m (s.1 2)) (H : K 1 M) : ∀ r i f2, i + r = 4 → r < f2 → w_L_parts_L335 (448 + zz) K f2 (448 + (zz + 2)) M 1 ra (lN m) (nI (sm (fun q => s.1 (92 + 8 * q + 4)) (s.1 2))) (nI (s.1 2)) (nI i) := by
  have w0 := I.2.2.2.1.2
  have g60 := w0.n.2
  have L := w0.2.2.2.2.2.2.2.1
  have k0 := w0.2.2.2.2.2.2.2.2.1
  have al := al_ok zz hz
  obtain ⟨p1, p2, p3, p4⟩ := al_p zz hz
  have kA : ra ≤ 448 + (zz + 2) ∧ kd ra = (7, 4) := ⟨by omega, by rw [hra]; exact p1⟩
  intro r
  induction r with
  | zero =>
    intro i f2 hi hf
    obtain ⟨f3, rfl⟩ : ∃ f3, f2 = f3 + 1 := ⟨f2 - 1, by omega⟩
    refine pk_le 4 i (fun _ => ⟨al, k1 (zz := zz + 2), z_count I 7 (by decide) (cP (congrArg nI e.2.2.2.1) ?_)⟩) (fun _ => by omega)
    refine m_rI ra 7 4 0 kA rfl (by decide) (by decide) ?_
    rw [R.1 0 (by decide)]
    have c0 : cnt (fun q => s.1 (92 + 8 * q + 3)) 0 (s.1 2) = s.1 11 := by rw [← cS_cnt]; exact k0
    rw [c0]
    refine cP ((lg_cmp_eq _ _).mpr ?_) ⟨al, z_partN I _ _ (Or.inr (nI_le (Nat.le_refl _) (by omega))) (cP rfl ⟨al, z_count17 (cP rfl ⟨rfl, ?_, rfl, H⟩)⟩)⟩
    · rw [(mk_shl (s.1 11) (by have := L.1; omega)).2, mk_all L hm]
    · exact Nat.le_of_eq p4
  | succ r ih =>
    intro i f2 hi hf
    obtain ⟨f3, rfl⟩ : ∃ f3, f2 = f3 + 1 := ⟨f2 - 1, by omega⟩
    refine pk_le 4 i (fun _ => by omega) (fun _ => ⟨al, k1 (zz := zz + 2), ?_⟩)
    rw [show (3 : Int32) + nI i = nI (3 + i) from nI_add 3 i]
    refine z_count I (3 + i) (by omega) (m_rI ra 7 4 i kA rfl (by omega) (by decide) (cT ?_ (m_eq ?_)))
    · rw [R.1 i (by omega), ← cS_cnt]
      congr 1
      unfold cT_
      rw [if_neg (by omega), if_neg (by omega), if_neg (by omega), if_pos (by omega), Nat.add_sub_cancel_left]
    · rw [nI_1]
      exact ih (i + 1) f3 (by omega) (by omega)
theorem z_p301 {K : Int32 → Mem → Prop} (I : CI M b s Hs k z f q tl tx) (e : WEs s) (hz : zz % 2 = 0) (hra : ra = 448 + zz + 1) (hrb : rb = 448 + zz + 2) (R : AR M ra rb s (s.1 2)) (m : Nat) (hm : MK s m (s.1 2)) (H : K 1 M) : ∀ r i f2, i + r = 6 → 1 ≤ i → r < f2 → w_L_parts_L301 (448 + zz) K f2 (448 + (zz + 2)) M 1 ra rb (lN m) (nI (sm (fun q => s.1 (92 + 8 * q + 4)) (s.1 2))) (nI (s.1 2)) (nI i) := by
  have w0 := I.2.2.2.1.2
  have k2 := w0.2.2.2.2.2.2.2.2.2.2.1
  have al := al_ok zz hz
  obtain ⟨p1, p2, p3, p4⟩ := al_p zz hz
  have kB : rb ≤ 448 + (zz + 2) ∧ kd rb = (7, 6) := ⟨by omega, by rw [hrb]; exact p2⟩
  intro r
  induction r with
  | zero =>
    intro i f2 hi h1 hf
    obtain ⟨f3, rfl⟩ : ∃ f3, f2 = f3 + 1 := ⟨f2 - 1, by omega⟩
    exact pk_le 6 i (fun _ => z_p335 I e hz hra R m hm H 4 0 4000 rfl (by decide)) (fun _ => by omega)
  | succ r ih =>
    intro i f2 hi h1 hf
    obtain ⟨f3, rfl⟩ : ∃ f3, f2 = f3 + 1 := ⟨f2 - 1, by omega⟩
    refine pk_le 6 i (fun _ => by omega) (fun _ => ⟨al, k1 (zz := zz + 2), ?_⟩)
    rw [show (9 : Int32) + nI i = nI (9 + i) from nI_add 9 i]
    refine z_count I (9 + i) (by omega) (m_rI rb 7 6 i kB rfl (by omega) (by decide) (cT ?_ (m_eq ?_)))
    · rw [R.2 i (by omega), k2 i h1 (by omega)]
      congr 1
      unfold cT_
      rw [if_neg (by omega), if_neg (by omega), if_neg (by omega), if_neg (by omega), if_neg (by omega), if_neg (by omega), if_neg (by omega), show 9 + i - 4 = 5 + i by omega]
    · rw [nI_1]
      exact ih (i + 1) f3 (by omega) (by omega) (by omega)
theorem ite_iff {A B : Prop} [Decidable A] [Decidable B] {x y : Int32} (h : A ↔ B) : (if A then x else y) = (if B then x else y) := by
  by_cases a : A
  · rw [if_pos a, if_pos (h.mp a)]
  · rw [if_neg a, if_neg (fun b => a (h.mpr b))]
theorem ite_not {A B : Prop} [Decidable A] [Decidable B] {x y : Int32} (h : A ↔ ¬ B) : (if A then x else y) = (if B then y else x) := by
  by_cases a : A
  · rw [if_pos a, if_neg (h.mp a)]
  · rw [if_neg a, if_pos (Classical.byContradiction fun b => a (h.mpr b))]
theorem hp_neg {x : Nat} (hx : x < 2 ^ 30) : hp x < 0 ↔ x = 0 := by
  by_cases e : x = 0
  · rw [e]; exact ⟨fun _ => rfl, fun _ => by decide⟩
  · obtain ⟨y, rfl⟩ : ∃ y, x = y + 1 := ⟨x - 1, by omega⟩
    rw [hp_s]
    exact ⟨fun a => absurd a (nI_pos (by omega)), fun a => absurd a e⟩
theorem cp_npos {x : Nat} (hx : x < 2 ^ 30) : cp x ≤ 0 ↔ x = 0 := by
  unfold cp
  by_cases e : x = 0
  · rw [if_pos e]; exact ⟨fun _ => e, fun _ => by decide⟩
  · rw [if_neg e]
    exact ⟨fun a => by have := (nI_leI (b := 0) (by omega) (by decide)).mp a; omega, fun a => absurd a e⟩
