/-! THE PURE PART, 29: setPressure -/
variable {M M' A : Mem} {b b' c h k k' tl tl' : Nat} {s s' z z' : S3} {Hs : Nat → S3} {f f' : Bool} {q tx tx' : Nat → Nat} {N N' P : Nat → Nat} {D D' : Nat → UInt64}
/-- doubles that are not negative, by their bits -/
theorem nn_val {v : UInt64} (h : v.toNat ≤ 9218868437227405312) : FP.Core.val64 v ≠ .nan := (FP.Core.ne_nan v).mpr (by rw [Nat.mod_eq_of_lt (by omega)]; exact h)
theorem dc_of {x y : UInt64} (hx : x.toNat ≤ 9218868437227405312) (hy : y.toNat ≤ 9218868437227405312) : FP.dcmp x y = some (compare (x.toNat : Int) (y.toNat : Int)) := by
  have h := FP.Core.dcmp_key (nn_val hx) (nn_val hy)
  unfold FP.Core.dkey at h
  rw [if_neg (by omega), if_neg (by omega)] at h
  exact h
theorem dc_lt {x y : UInt64} (hx : x.toNat ≤ 9218868437227405312) (hy : y.toNat ≤ 9218868437227405312) : Op.cmpValue (FP.dcmp x y) CmpOp.l < 0 ↔ x.toNat < y.toNat := by
  rw [dc_of hx hy]
  rcases Nat.lt_trichotomy x.toNat y.toNat with h | h | h
  · rw [(FP.Core.compare_lt_iff _ _).mpr (by omega)]; exact ⟨fun _ => h, fun _ => by decide⟩
  · rw [(FP.Core.compare_eq_iff _ _).mpr (by omega)]; exact ⟨fun y => absurd y (by decide), fun y => by omega⟩
  · rw [(FP.Core.compare_gt_iff _ _).mpr (by omega)]; exact ⟨fun y => absurd y (by decide), fun y => by omega⟩
theorem dc_gt {x y : UInt64} (hx : x.toNat ≤ 9218868437227405312) (hy : y.toNat ≤ 9218868437227405312) : 0 < Op.cmpValue (FP.dcmp x y) CmpOp.g ↔ y.toNat < x.toNat := by
  rw [dc_of hx hy]
  rcases Nat.lt_trichotomy x.toNat y.toNat with h | h | h
  · rw [(FP.Core.compare_lt_iff _ _).mpr (by omega)]; exact ⟨fun y => absurd y (by decide), fun y => by omega⟩
  · rw [(FP.Core.compare_eq_iff _ _).mpr (by omega)]; exact ⟨fun y => absurd y (by decide), fun y => by omega⟩
  · rw [(FP.Core.compare_gt_iff _ _).mpr (by omega)]; exact ⟨fun _ => h, fun _ => by decide⟩
theorem dc_eq {x y : UInt64} (hx : x.toNat ≤ 9218868437227405312) (hy : y.toNat ≤ 9218868437227405312) : Op.cmpValue (FP.dcmp x y) CmpOp.l = 0 ↔ x.toNat = y.toNat := by
  rw [dc_of hx hy]
  rcases Nat.lt_trichotomy x.toNat y.toNat with h | h | h
  · rw [(FP.Core.compare_lt_iff _ _).mpr (by omega)]; exact ⟨fun y => absurd y (by decide), fun y => by omega⟩
  · rw [(FP.Core.compare_eq_iff _ _).mpr (by omega)]; exact ⟨fun _ => h, fun _ => by decide⟩
  · rw [(FP.Core.compare_gt_iff _ _).mpr (by omega)]; exact ⟨fun y => absurd y (by decide), fun y => by omega⟩
/-- a double out of its bits -/
theorem number_ok {v : UInt64} (hv : v.toNat ≤ 4696837146684686336) {n : Nat} {K : UInt64 → Mem → Prop} (H : K v M) : w_X5_numberOf n M v.toInt64 K := number_okx hv H
def prX (M : Mem) (c i : Nat) (v : UInt64) : Mem := sD (sL M (c + 1 + i) 2 v.toInt64) (c + 1 + i) 3 v
theorem onC_prX (i : Nat) (hi : i < 3) (v : UInt64) : OnC c M (prX M c i v) := (onC_L (M := M) (by omega) (by omega)).trans (onC_D (by omega) (by omega))
theorem cr_prX (cr : CR M c N D P) (h0 : N 0 ≤ 8) (i : Nat) (hi : i < 3) (v : UInt64) : CR (prX M c i v) c N (up D i v) P := by
  obtain ⟨S, s, cq, ch, cd, pc, pa⟩ := cr
  have gd : ∀ r k, r ≠ c + 1 + i → gD (prX M c i v) r k = gD M r k := fun r k h => by unfold prX; rw [gD_ne (Or.inl h), gD_sL]
  refine ⟨S.to (fun h hh => rfl) (fun p hp => rfl) (fun j k hj hk => ?_) rfl, s, fun j hj => ?_, fun h hh => ch h hh, fun h hh => ?_, fun p hp => ?_, fun p h1 h2 => pa p h1 h2⟩
  · show gL (sL M (c + 1 + i) 2 v.toInt64) (c + 1 + j) k = _
    rw [gL_ne (Or.inr (by omega))]
  · by_cases e : j = i
    · subst e
      rw [up_eq]
      exact ⟨gL_eq, gD_eq⟩
    · rw [up_ne e, gd _ _ (by omega)]
      refine ⟨?_, (cq j hj).2⟩
      show gL (sL M (c + 1 + i) 2 v.toInt64) (c + 1 + j) 2 = _
      rw [gL_ne (Or.inl (by omega))]
      exact (cq j hj).1
  · have x := cd h hh
    unfold HD at x ⊢
    rw [gd _ _ (by omega), gd _ _ (by omega), gd _ _ (by omega), gd _ _ (by omega), up_ne (by omega), up_ne (by omega), up_ne (by omega), up_ne (by omega)]
    exact x
  · have x := pc p hp
    unfold PC at x ⊢
    rw [gd _ _ (by omega), up_ne (by omega)]
    exact x
theorem wf_prX (w : WF N D P b) (i : Nat) (hi : i < 3) (v : UInt64) (h0 : i = 0 → PZ v ∧ 4607182418800017408 ≤ v.toNat) (h1 : v.toNat ≤ 4696837146684686336) : WF N (up D i v) P b := by
  obtain ⟨g, ⟨r1, r2, r3, r4⟩, wh, wo, wz, wd, wq, L, C⟩ := w
  have dn : ∀ j, 3 ≤ j → up D i v j = D j := fun j hj => up_ne (by omega)
  refine ⟨g, ?_, fun h hh => ?_, fun h hh q => ?_, wz, wd, wq, L, C⟩
  · rcases (show i = 0 ∨ i = 1 ∨ i = 2 by omega) with rfl | rfl | rfl
    · refine ⟨by rw [up_eq]; exact (h0 rfl).1, by rw [up_eq]; exact (h0 rfl).2, by rw [up_ne (by decide)]; exact r3, by rw [up_ne (by decide)]; exact r4⟩
    · refine ⟨by rw [up_ne (by decide)]; exact r1, by rw [up_ne (by decide)]; exact r2, by rw [up_eq]; exact h1, by rw [up_ne (by decide)]; exact r4⟩
    · refine ⟨by rw [up_ne (by decide)]; exact r1, by rw [up_ne (by decide)]; exact r2, by rw [up_ne (by decide)]; exact r3, by rw [up_eq]; exact h1⟩
  · unfold WH
    rw [dn _ (by omega), dn _ (by omega)]
    exact wh h hh
  · obtain ⟨o1, o2, o3, o4, o5, o6⟩ := wo h hh q
    exact ⟨o1, o2, o3, o4, fun k hk => by rw [dn _ (by omega)]; exact o5 k hk, fun k hk => by rw [dn _ (by omega), dn _ (by omega)]; exact o6 k hk⟩
def loB (i : Nat) : Nat := if i = 0 then 4607182418800017408 else 0
def hiB (i : Nat) : Nat := if i = 0 then 4652007308841189376 else 4696837146684686336
theorem sh_rng (S : Sh M c) (i : Nat) (hi : i < 3) : gL M (c + 1 + i) 0 = lN (loB i) ∧ gL M (c + 1 + i) 1 = lN (hiB i) := by
  obtain ⟨-, -, -, -, l0, l1, l2, l3, l4, l5⟩ := S
  rcases (show i = 0 ∨ i = 1 ∨ i = 2 by omega) with rfl | rfl | rfl
  · exact ⟨l0, l1⟩
  · exact ⟨l2, l3⟩
  · exact ⟨l4, l5⟩
theorem lN_u {n : Nat} (h : n < 2 ^ 63) : (Int64.toUInt64 (lN n)).toNat = n := by
  have e : (Int64.toUInt64 (lN n)).toNat = n % 2 ^ 64 := rfl
  rw [e, Nat.mod_eq_of_lt (by omega)]
theorem lN_uu (n : Nat) : (Int64.toUInt64 (lN n)).toInt64 = lN n := rfl
theorem snl_ok {n : Nat} (h : n ≤ 9218868437227405312) : vn_snl2d (lN n) = false := by
  unfold vn_snl2d
  have e : ¬ ((lN n).toUInt64 &&& 0x7fffffffffffffff > 0x7ff0000000000000) := by
    intro g
    have g2 : (0x7ff0000000000000 : UInt64).toNat < ((lN n).toUInt64 &&& 0x7fffffffffffffff).toNat := g
    rw [FP.Core.mask_toNat, lN_u (by omega), Nat.mod_eq_of_lt (by omega)] at g2
    have : (0x7ff0000000000000 : UInt64).toNat = 9218868437227405312 := rfl
    omega
  rw [decide_eq_false e]; rfl
theorem y_setPressure {K : Int32 → Mem → Prop} (V : INV M b) (x : Int32) (y : Int64) (H : ∀ a M1, An (w_X6_setPressure 457 M1 449 x y) a b → K a M1) : w_X5_setPressure 457 M 1 x y K := by
  obtain ⟨s, Hs, k, z, f, q, tl, tx, I, R⟩ := id V
  have cr0 := I.2.2.2.1.1
  have w0 := I.2.2.2.1.2
  have c2 := kc0 car2
  refine ⟨k1, m_rR I.1.1 ⟨c2, ?_⟩⟩
  rcases argc x (n := 3) (by omega) with e | ⟨i, hi, rfl⟩
  · have o : x < 0 ∨ (2 : Int32) < x := by
      rcases e with e | e
      · exact Or.inl e
      · refine Or.inr ?_
        rw [Int32.le_iff_toInt_le] at e
        rw [Int32.lt_iff_toInt_lt]
        have : (nI 3).toInt = 3 := rfl
        have : (2 : Int32).toInt = 2 := rfl
        omega
    have ne : ∀ i, i < 3 → x ≠ nI i := by
      intro i hi y
      subst y
      rcases o with o | o
      · exact nI_pos (by omega) o
      · have := (nI_ltI (a := 2) (by decide) (by omega)).mp o
        omega
    exact c_pressN (ne 0 (by decide)) (ne 1 (by decide)) (ne 2 (by decide)) (cT rfl (H _ _ (fun K h => s_inF o (cT rfl (h M V)))))
  obtain ⟨l0, l1⟩ := sh_rng cr0.1 i hi
  have i2 : ¬ (2 : Int32) < nI i := fun e => by have := (nI_ltI (a := 2) (by decide) (by omega)).mp e; omega
  have lo63 : loB i < 2 ^ 62 := by unfold loB; split <;> decide
  have hi63 : hiB i ≤ 4696837146684686336 := by unfold hiB; split <;> decide
  refine c_pressY cr0.1 i hi (cF (by omega) ⟨kcP car2 i hi, ?_⟩)
  rw [l0, l1]
  by_cases y0 : y < 0
  · have bad : An (w_X6_setPressure 457 M 449 (nI i) y) (-2) b := fun K h => s_inT (nI_pos (by omega)) i2 (cF (by decide) (cT ((lg_cmp_lt _ _).mpr y0) (h M V)))
    refine cT ((lg_cmp_lt _ _).mpr ?_) (H _ _ bad)
    rw [Int64.lt_iff_toInt_lt] at y0 ⊢
    rw [pk_lT (by omega)]
    have : (0 : Int64).toInt = 0 := rfl
    omega
  obtain ⟨n, n63, rfl⟩ := pk_lOf y0
  have y0' : ¬ lg_cmp (lN n) 0 < 0 := fun e => y0 ((lg_cmp_lt _ _).mp e)
  have rbad : (n < loB i ∨ hiB i < n) → An (w_X6_setPressure 457 M 449 (nI i) (lN n)) (-2) b := by
    intro o K h
    refine s_inT (nI_pos (by omega)) i2 (cF (by decide) (cF y0' ?_))
    by_cases top : n ≤ 9218868437227405312
    · refine cT ((lg_cmp_le _ _).mpr ((pk_lLE (b := 9218868437227405312) n63 (by decide)).mpr top)) ⟨snl_ok top, m_eq ?_⟩
      have un := lN_u n63
      obtain ⟨u, hu⟩ : ∃ u, u = Int64.toUInt64 (lN n) := ⟨_, rfl⟩
      rw [← hu] at un ⊢
      by_cases i0 : i = 0
      · subst i0
        refine cP rfl ?_
        by_cases a : n < 4607182418800017408
        · refine cT ((dc_lt (by omega) (by decide)).mpr ?_) (h M V)
          rw [un]; exact a
        · refine cF (fun e => a ?_) (cT ((dc_gt (by omega) (by decide)).mpr ?_) (h M V))
          · have := (dc_lt (y := FP.dconst1) (by omega) (by decide)).mp e
            rw [un] at this; exact this
          · rw [un]
            exact o.resolve_left a
      · refine cN (nI_ne0 (by omega) (by omega)) ?_
        have el : loB i = 0 := if_neg i0
        have eh : hiB i = 4696837146684686336 := if_neg i0
        refine cF (fun e => ?_) (cT ((dc_gt (by omega) (by decide)).mpr ?_) (h M V))
        · have : u.toNat < 0 := (dc_lt (y := FP.dconst0) (by omega) (by decide)).mp e
          omega
        · rw [un]
          show 4696837146684686336 < n
          omega
    · exact cF (fun e => top ((pk_lLE (b := 9218868437227405312) n63 (by decide)).mp ((lg_cmp_le _ _).mp e))) (h M V)
  by_cases a1 : n < loB i
  · exact cT ((lg_cmp_lt _ _).mpr ((pk_lLT n63 (by omega)).mpr a1)) (H _ _ (rbad (Or.inl a1)))
  refine cF (fun e => a1 ((pk_lLT n63 (by omega)).mp ((lg_cmp_lt _ _).mp e))) ?_
  by_cases a2 : n ≤ hiB i
  · refine cT ((lg_cmp_le _ _).mpr ((pk_lLE n63 (by omega)).mpr a2)) ?_
    have un := lN_u n63
    have ui := lN_uu n
    obtain ⟨u, hu⟩ : ∃ u, u = Int64.toUInt64 (lN n) := ⟨_, rfl⟩
    rw [← hu] at un ui
    have Di := (cr0.2.2.1 i hi).1
    obtain ⟨r1, r2, r3, r4⟩ := w0.2.1
    have Dn : (s.2.1 i).toNat ≤ 4696837146684686336 := by
      rcases (show i = 0 ∨ i = 1 ∨ i = 2 by omega) with rfl | rfl | rfl
      · exact Nat.le_trans r1 (by decide)
      · exact r3
      · exact r4
    have same : gL M (2 + 1 + i) 2 = lN n ↔ s.2.1 i = u := by
      rw [Di, ← ui]
      refine ⟨fun e => ?_, fun e => by rw [e]⟩
      have := congrArg Int64.toUInt64 e
      simpa using this
    have ref : ∀ (X : Mem) (K : Int32 → Mem → Prop), Q X X s.1 s.2.1 → (s.2.1 i = u → K (-5) X) → (s.2.1 i ≠ u → w_X6_record 457 X 449 (fun M7 => ∀ r8, r8 = gR M7 449 3 → ((r8 ≤ 457 ∧ (kd r8).1 = 8 ∧ vp_in (nI i) (kd r8).2) ∧ ∀ M9, M9 = sD M7 r8 (Int32.toNatClampNeg (nI i)) u → K 1 M9))) → w_X6_setPressure 457 X 449 (nI i) (lN n) K := by
      intro X K Qx hy hn
      refine s_inT (nI_pos (by omega)) i2 (cF (by decide) (cF y0' (cT ((lg_cmp_le _ _).mpr ((pk_lLE (b := 9218868437227405312) n63 (by decide)).mpr (by omega))) ⟨snl_ok (by omega), m_eq ?_⟩)))
      rw [← hu]
      have body : ∀ r5, r5 = gR X 449 3 → ((r5 ≤ 457 ∧ (kd r5).1 = 8 ∧ vp_in (nI i) (kd r5).2) ∧ (∀ z6, z6 = gD X r5 (Int32.toNatClampNeg (nI i)) → ((¬ (Op.cmpValue (FP.dcmp z6 u) CmpOp.l) = 0 → w_X6_record 457 X 449 (fun M7 => (∀ r8, r8 = gR M7 449 3 → ((r8 ≤ 457 ∧ (kd r8).1 = 8 ∧ vp_in (nI i) (kd r8).2) ∧ (∀ M9, M9 = sD M7 r8 (Int32.toNatClampNeg (nI i)) u → K (1 : Int32) M9))))) ∧ ((Op.cmpValue (FP.dcmp z6 u) CmpOp.l) = 0 → K (-5 : Int32) X)))) := by
        refine q_r3 Qx (q_rD Qx i rfl (by omega) ?_)
        have ce := dc_eq (x := s.2.1 i) (y := u) (by omega) (by omega)
        by_cases e : s.2.1 i = u
        · exact cP (ce.mpr (by rw [e])) (hy e)
        · exact cN (fun y => e (UInt64.toNat_inj.mp (ce.mp y))) (hn e)
      by_cases i0 : i = 0
      · subst i0
        refine cP rfl (cF (fun e => a1 ?_) (cF (fun e => ?_) ⟨k449, body⟩))
        · have := (dc_lt (y := FP.dconst1) (by omega) (by decide)).mp e
          rw [un] at this; exact this
        · have := (dc_gt (by omega) (by decide)).mp e
          rw [un] at this
          exact absurd a2 (Nat.not_le.mpr this)
      · have eh : hiB i = 4696837146684686336 := if_neg i0
        refine cN (nI_ne0 (by omega) (by omega)) (cF (fun e => ?_) (cF (fun e => ?_) ⟨k449, body⟩))
        · have : u.toNat < 0 := (dc_lt (y := FP.dconst0) (by omega) (by decide)).mp e
          omega
        · have := (dc_gt (by omega) (by decide)).mp e
          rw [un] at this
          rw [eh] at a2
          exact absurd a2 (Nat.not_le.mpr this)
    by_cases e : s.2.1 i = u
    · exact cP ((lg_cmp_eq _ _).mpr (same.mpr e).symm) (H _ _ (fun K h => ref M K R.qq (fun _ => h M V) (fun n => absurd e n)))
    · refine cN (fun y => e (same.mp ((lg_cmp_eq _ _).mp y).symm)) (c_remember I (fun M1 q1 I1 F1 => ⟨kcP car2 i hi, m_eq ?_⟩))
      rw [← ui]
      refine number_ok (by omega) (m_eq ?_)
      have cr := I1.2.2.2.1.1
      have wf := I1.2.2.2.1.2
      refine H _ _ (fun K h => ?_)
      have o : OnC 2 M1 (prX M1 2 i u) := onC_prX i hi u
      have R1 := (R.fr F1).fr (o.fc car2)
      change w_X6_setPressure 457 (prX M1 2 i u) 449 (nI i) (lN n) K
      refine ref _ K R1.qq (fun y => absurd y e) (fun _ => r_rec R1 I.2.2.2.2.1.1 (fun M3 R3 F3 => q_r3 R3.qq (q_wD R3.qq i rfl (by omega) (fun M4 Q4 => ?_))))
      refine h M4 (inv_fin (s := (s.1, up s.2.1 i u, s.2.2)) (I1.act o (cr_prX cr wf.n.1 i hi u) (wf_prX wf i hi u (fun i0 => ?_) (by omega)) (Nat.le_refl b)) (R3.act Q4.2 Q4.1) (F3.trans Q4.2.fr))
      subst i0
      unfold PZ
      rw [un]
      exact ⟨a2, Nat.not_lt.mp a1⟩
  · exact cF (fun e => a2 ((pk_lLE n63 (by omega)).mp ((lg_cmp_le _ _).mp e))) (H _ _ (rbad (Or.inr (Nat.not_le.mp a2))))
