/-! THE PURE PART, 29: setPressure -/
variable {M M' A : Mem} {b b' c h k k' tl tl' : Nat} {s s' z z' : S3} {Hs : Nat → S3} {f f' : Bool} {q tx tx' : Nat → Nat} {N N' P : Nat → Nat} {D D' : Nat → UInt64}
/-- doubles that are not negative, by their bits -/
theorem nn_val {v : UInt64} (h : v.toNat ≤ 9218868437227405312) : FP.Core.val64 v ≠ .nan := (FP.Core.ne_nan v).mpr (by rw [Nat.mod_eq_of_lt (by omega)]; exact h)
theorem dc_of {x y : UInt64} (hx : x.toNat ≤ 9218868437227405312) (hy : y.toNat ≤ 9218868437227405312) : FP.dcmp x y = some (compare (x.toNat : Int) (y.toNat : Int)) := by
  have h := FP.Core.dcmp_key (nn_val hx) (nn_val hy)
  unfold FP.Core.dkey at h
  rw [if_neg (by omega), if_neg (by omega)] at h
  exact h
theorem dc_lt {x y : UInt64} (hx : x.toNat ≤ 9218868437227405312) (hy : y.toNat ≤ 9218868437227405312) : Op.cmpValue (FP.dcmp x y) CmpOp.l < 0 ↔ x.toNat < y.toNat := by
  rw [dc_of hx hy]
  rcases Nat.lt_trichotomy x.toNat y.toNat with h | h | h
  · rw [(FP.Core.compare_lt_iff _ _).mpr (by omega)]; exact ⟨fun _ => h, fun _ => by decide⟩
  · rw [(FP.Core.compare_eq_iff _ _).mpr (by omega)]; exact ⟨fun y => absurd y (by decide), fun y => by omega⟩
  · rw [(FP.Core.compare_gt_iff _ _).mpr (by omega)]; exact ⟨fun y => absurd y (by decide), fun y => by omega⟩
theorem dc_gt {x y : UInt64} (hx : x.toNat ≤ 9218868437227405312) (hy : y.toNat ≤ 9218868437227405312) : 0 < Op.cmpValue (FP.dcmp x y) CmpOp.g ↔ y.toNat < x.toNat := by
  rw [dc_of hx hy]
  rcases Nat.lt_trichotomy x.toNat y.toNat with h | h | h
  · rw [(FP.Core.compare_lt_iff _ _).mpr (by omega)]; exact ⟨fun y => absurd y (by decide), fun y => by omega⟩
  · rw [(FP.Core.compare_eq_iff _ _).mpr (by omega)]; exact ⟨fun y => absurd y (by decide), fun y => by omega⟩
  · rw [(FP.Core.compare_gt_iff _ _).mpr (by omega)]; exact ⟨fun _ => h, fun _ => by decide⟩
theorem dc_eq {x y : UInt64} (hx : x.toNat ≤ 9218868437227405312) (hy : y.toNat ≤ 9218868437227405312) : Op.cmpValue (FP.dcmp x y) CmpOp.l = 0 ↔ x.toNat = y.toNat := by
  rw [dc_of hx hy]
  rcases Nat.lt_trichotomy x.toNat y.toNat with h | h | h
  · rw [(FP.Core.compare_lt_iff _ _).mpr (by omega)]; exact ⟨fun y => absurd y (by decide), fun y => by omega⟩
  · rw [(FP.Core.compare_eq_iff _ _).mpr (by omega)]; exact ⟨fun _ => h, fun _ => by decide⟩
  · rw [(FP.Core.compare_gt_iff _ _).mpr (by omega)]; exact ⟨fun y => absurd y (by decide), fun y => by omega⟩
/-- a double out of its bits -/
theorem number_ok {v : UInt64} (hv : v.toNat ≤ 4696837146684686336) {n : Nat} {K : UInt64 → Mem → Prop} (H : K v M) : w_X5_numberOf n M v.toInt64 K := number_okx hv H
def prX (M : Mem) (c i : Nat) (v : UInt64) : Mem := sD (sL M (c + 1 + i) 2 v.toInt64) (c + 1 + i) 3 v
theorem onC_prX (i : Nat) (hi : i < 3) (v : UInt64) : OnC c M (prX M c i v) := (onC_L (M := M) (by omega) (by omega)).trans (onC_D (by omega) (by omega))
theorem cr_prX (cr : CR M c N D P) (h0 : N 0 ≤ 8) (i : Nat) (hi : i < 3) (v : UInt64) : CR (prX M c i v) c N (up D i v) P := by
  obtain ⟨S, s, cq, ch, cd, pc, pa⟩ := cr
  have gd : ∀ r k, r ≠ c + 1 + i → gD (prX M c i v) r k = gD M r k := fun r k h => by unfold prX; rw [gD_ne (Or.inl h), gD_sL]
  refine ⟨S.to (fun h hh => rfl) (fun p hp => rfl) (fun j k hj hk => ?_) rfl, s, fun j hj => ?_, fun h hh => ch h hh, fun h hh => ?_, fun p hp => ?_, fun p h1 h2 => pa p h1 h2⟩
  · show gL (sL M (c + 1 + i) 2 v.toInt64) (c + 1 + j) k = _
    rw [gL_ne (Or.inr (by omega))]
  · by_cases e : j = i
    · subst e
      rw [up_eq]
      exact ⟨gL_eq, gD_eq⟩
    · rw [up_ne e, gd _ _ (by omega)]
      refine ⟨?_, (cq j hj).2⟩
      show gL (sL M (c + 1 + i) 2 v.toInt64) (c + 1 + j) 2 = _
      rw [gL_ne (Or.inl (by omega))]
      exact (cq j hj).1
  · have x := cd h hh
    unfold HD at x ⊢
    rw [gd _ _ (by omega), gd _ _ (by omega), gd _ _ (by omega), gd _ _ (by omega), up_ne (by omega), up_ne (by omega), up_ne (by omega), up_ne (by omega)]
    exact x
  · have x := pc p hp
    unfold PC at x ⊢
    rw [gd _ _ (by omega), up_ne (by omega)]
    exact x
theorem wf_prX (w : WF N D P b) (i : Nat) (hi : i < 3) (v : UInt64) (h0 : i = 0 → PZ v ∧ 4607182418800017408 ≤ v.toNat) (h1 : v.toNat ≤ 4696837146684686336) : WF N (up D i v) P b := by
  obtain ⟨g, ⟨r1, r2, r3, r4⟩, wh, wo, wz, wd, wq, L, C⟩ := w
  have dn : ∀ j, 3 ≤ j → up D i v j = D j := fun j hj => up_ne (by omega)
  refine ⟨g, ?_, fun h hh => ?_, fun h hh q => ?_, wz, wd, wq, L, C⟩
  · rcases (show i = 0 ∨ i = 1 ∨ i = 2 by omega) with rfl | rfl | rfl
    · refine ⟨by rw [up_eq]; exact (h0 rfl).1, by rw [up_eq]; exact (h0 rfl).2, by rw [up_ne (by decide)]; exact r3, by rw [up_ne (by decide)]; exact r4⟩
    · refine ⟨by rw [up_ne (by decide)]; exact r1, by rw [up_ne (by decide)]; exact r2, by rw [up_eq]; exact h1, by rw [up_ne (by decide)]; exact r4⟩
    · refine ⟨by rw [up_ne (by decide)]; exact r1, by rw [up_ne (by decide)]; exact r2, by rw [up_ne (by decide)]; exact r3, by rw [up_eq]; exact h1⟩
  · unfold WH
    rw [dn _ (by omega), dn _ (by omega)]
    exact wh h hh
  · obtain ⟨o1, o2, o3, o4, o5, o6⟩ := wo h hh q
    exact ⟨o1, o2, o3, o4, fun k hk => by rw [dn _ (by omega)]; exact o5 k hk, fun k hk => by rw [dn _ (by omega), dn _ (by omega)]; exact o6 k hk⟩
def loB (i : Nat) : Nat := if i = 0 then 4607182418800017408 else 0
def hiB (i : Nat) : Nat := if i = 0 then 4652007308841189376 else 4696837146684686336
theorem sh_rng (S : Sh M c) (i : Nat) (hi : i < 3) : gL M (c + 1 + i) 0 = lN (loB i) ∧ gL M (c + 1 + i) 1 = lN (hiB i) := by
  obtain ⟨-, -, -, -, l0, l1, l2, l3, l4, l5⟩ := S
  rcases (show i = 0 ∨ i = 1 ∨ i = 2 by omega) with rfl | rfl | rfl
  · exact ⟨l0, l1⟩
  · exact ⟨l2, l3⟩
  · exact ⟨l4, l5⟩
theorem lN_u {n : Nat} (h : n < 2 ^ 63) : (Int64.toUInt64 (lN n)).toNat = n := by
  have e : (Int64.toUInt64 (lN n)).toNat = n % 2 ^ 64 := rfl
  rw [e, Nat.mod_eq_of_lt (by omega)]
theorem lN_uu (n : Nat) : (Int64.toUInt64 (lN n)).toInt64 = lN n := rfl
theorem snl_ok {n : Nat} (h : n ≤ 9218868437227405312) : vn_snl2d (lN n) = false := by
  unfold vn_snl2d
  have e : ¬ ((lN n).toUInt64 &&& 0x7fffffffffffffff > 0x7ff0000000000000) := by
    intro g
    have g2 : (0x7ff0000000000000 : UInt64).toNat < ((lN n).toUInt64 &&& 0x7fffffffffffffff).toNat := g
    rw [FP.Core.mask_toNat, lN_u (by omega), Nat.mod_eq_of_lt (by omega)] at g2
    have : (0x7ff0000000000000 : UInt64).toNat = 9218868437227405312 := rfl
    omega
  rw [decide_eq_false e]; rfl
