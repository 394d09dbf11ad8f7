/-! doubles and floats by their digits: a double out of its bits, a float's own bits -/
variable {zz : Nat}
variable {M : Mem}
theorem dself_okx {v : UInt64} (hv : v.toNat ≤ 4696837146684686336) : Op.cmpValue (FP.dcmp v v) CmpOp.l = 0 := by
  show Op.cmpValue (FP.Core.dcmp v v) CmpOp.l = 0
  rw [FP.Core.dcmp_self ((FP.Core.ne_nan v).mpr (by rw [Nat.mod_eq_of_lt (by omega)]; omega))]
  rfl
theorem pz_nn {p : UInt64} (hp : PZ p) : FP.Core.dIsNaN p = false := by
  unfold PZ at hp
  exact (FP.Core.notNaN_iff p).mpr ((FP.Core.ne_nan p).mpr (by rw [Nat.mod_eq_of_lt (by omega)]; omega))
theorem fnan_okx {p : UInt64} (hp : PZ p) : Op.cmpValue (FP.fcmp (FP.d2f p) (FP.d2f p)) CmpOp.l = 0 := by
  have h : FP.fIsNaN (FP.d2f p) = false := (FP.d2f_nan p).trans (pz_nn hp)
  show Op.cmpValue (FP.Core.fcmp (FP.d2f p) (FP.d2f p)) CmpOp.l = 0
  rw [FP.Core.fcmp_self ((FP.Core.notNaN_iff32 _).mp h)]
  rfl
/-- the value c * 2^x, as a double -/
def rd (c : Nat) (x : Int) : FP.Core.Datum := FP.Core.roundRatio FP.Core.b64 false c 1 x
theorem rd_fin (c : Nat) (x : Int) (hc : c < 2 ^ 53) (h1 : -1074 ≤ x) (h2 : x ≤ 971) : ∃ c' q', rd c x = .fin false c' q' ∧ FP.Core.fits FP.Core.b64 (.fin false c' q') ∧ FP.Core.inUnits c' q' (-1074) = FP.Core.inUnits c x (-1074) := by
  have hq : FP.Core.b64.qmax = 971 := by decide
  obtain ⟨c', q', e1, e2⟩ := FP.Core.round_exact FP.Core.good_b64 false (c := c) (q := x) hc (by rw [q64]; exact h1) (by rw [hq]; exact h2)
  have f := FP.Core.round_fits FP.Core.good_b64 (.fin false c x)
  rw [e1] at f
  rw [q64] at e2
  exact ⟨c', q', e1, f, e2⟩
theorem rr_cong {s : Bool} {a a' : Nat} {e e' : Int} (l : Int) (h1 : l ≤ e) (h2 : l ≤ e') (h : FP.Core.inUnits a e l = FP.Core.inUnits a' e' l) : FP.Core.roundRatio FP.Core.b64 s a 1 e = FP.Core.roundRatio FP.Core.b64 s a' 1 e' := by
  refine FP.Core.roundRatio_congr (by decide) (by decide) ?_
  unfold FP.Core.inUnits at h
  rw [Nat.mul_one, Nat.mul_one]
  by_cases c : e ≤ e'
  · rw [show (e - e').toNat = 0 by omega, Nat.pow_zero, Nat.mul_one]
    refine Nat.eq_of_mul_eq_mul_right (Nat.two_pow_pos (e - l).toNat) ?_
    rw [h, Nat.mul_assoc, ← Nat.pow_add]
    congr 2; omega
  · rw [show (e' - e).toNat = 0 by omega, Nat.pow_zero, Nat.mul_one]
    refine Nat.eq_of_mul_eq_mul_right (Nat.two_pow_pos (e' - l).toNat) ?_
    rw [← h, Nat.mul_assoc, ← Nat.pow_add]
    congr 2; omega
theorem vf_rr {r : UInt64} {s : Bool} {n B : Nat} {e : Int} (h : FP.Core.val64 r = FP.Core.roundRatio FP.Core.b64 s n B e) : vf_n64 r := vf_of ((FP.Core.ne_nan r).mp (by rw [h]; exact FP.Core.roundRatio_ne_nan _ _ _ _ _))
theorem v2 : FP.Core.val64 4611686018427387904 = .fin false 4503599627370496 (-51) := by decide +kernel
theorem v32 : FP.Core.val64 4751297606875873280 = .fin false 4503599627370496 (-20) := by decide +kernel
theorem rd_dbl {z : UInt64} {c : Nat} {x : Int} (hc : c < 2 ^ 53) (h1 : -1074 ≤ x) (h2 : x ≤ 900) (h : FP.Core.val64 z = rd c x) : FP.Core.val64 (FP.dmul z 4611686018427387904) = rd c (x + 1) := by
  obtain ⟨c', q', e1, e2, e3⟩ := rd_fin c x hc h1 (by omega)
  have q1 := e2.2.1
  rw [q64] at q1
  show FP.Core.val64 (FP.Core.dmul z _) = _
  rw [FP.Core.val64_dmul, h, e1, v2]
  show FP.Core.roundRatio FP.Core.b64 false (c' * 4503599627370496) 1 (q' + -51) = _
  refine rr_cong (-1125) (by omega) (by omega) ?_
  unfold FP.Core.inUnits at e3 ⊢
  rw [show (q' + -51 - -1125).toNat = (q' - -1074).toNat by omega, Nat.mul_right_comm, e3, show (x + 1 - -1125).toNat = (x - -1074).toNat + 52 by omega, Nat.pow_add, Nat.mul_assoc]
theorem rd_div {z y : UInt64} {c j : Nat} {x : Int} (hc : c < 2 ^ 53) (h1 : -1074 ≤ x - j) (h2 : x ≤ 900) (hj : j ≤ 52) (h : FP.Core.val64 z = rd c x) (hy : FP.Core.val64 y = .fin false 4503599627370496 (j - 52)) : FP.Core.val64 (FP.ddiv z y) = rd c (x - j) := by
  obtain ⟨c', q', e1, e2, e3⟩ := rd_fin c x hc (by omega) (by omega)
  have q1 := e2.2.1
  rw [q64] at q1
  show FP.Core.val64 (FP.Core.ddiv z _) = _
  rw [FP.Core.val64_ddiv, h, e1, hy]
  have s1 : FP.Core.quotient FP.Core.b64 (.fin false c' q') (.fin false 4503599627370496 (j - 52)) = FP.Core.roundRatio FP.Core.b64 false c' 4503599627370496 (q' - (j - 52)) := by
    show (if (4503599627370496 : Nat) = 0 then (if c' = 0 then FP.Core.Datum.nan else FP.Core.Datum.inf (false != false)) else FP.Core.roundRatio FP.Core.b64 (false != false) c' 4503599627370496 (q' - (j - 52))) = _
    exact (if_neg (by decide)).trans rfl
  rw [s1]
  have s2 : FP.Core.roundRatio FP.Core.b64 false c' 4503599627370496 (q' - (j - 52)) = FP.Core.roundRatio FP.Core.b64 false c' 1 (q' - j) := by
    refine FP.Core.roundRatio_congr (by decide) (by decide) ?_
    rw [show (q' - ((j : Int) - 52) - (q' - (j : Int))).toNat = 52 by omega, show (q' - (j : Int) - (q' - ((j : Int) - 52))).toNat = 0 by omega, Nat.mul_one, Nat.pow_zero, Nat.mul_one, e52]
  rw [s2]
  refine rr_cong (-1074 - j) (by omega) (by omega) ?_
  unfold FP.Core.inUnits at e3 ⊢
  rw [show (q' - (j : Int) - (-1074 - (j : Int))).toNat = (q' - -1074).toNat by omega, e3, show (x - (j : Int) - (-1074 - (j : Int))).toNat = (x - -1074).toNat by omega]
theorem num_67 {n : Nat} {K : UInt64 → Mem → Prop} {c Ht : Nat} (hc : c < 2 ^ 53) (hH : Ht ≤ 1074) (v : UInt64) (hv : FP.Core.val64 v = rd c (-(Ht : Int))) (H : K v M) : ∀ (f h : Nat) (z : UInt64), h < f → h ≤ Ht → FP.Core.val64 z = rd c ((h : Int) - Ht) → w_X5_numberOf_L67 n K f M z (nI h) := by
  intro f
  induction f with
  | zero => intro h z hf; omega
  | succ f ih =>
    intro h z hf hh hz
    cases h with
    | zero =>
      refine cT (by decide) ?_
      have e : FP.Core.val64 z = FP.Core.val64 v := by rw [hz, hv]; congr 1; omega
      have ne : FP.Core.val64 z ≠ .nan := by rw [hz]; exact FP.Core.roundRatio_ne_nan _ _ _ _ _
      rw [FP.Core.val64_inj ne e]; exact H
    | succ h =>
      have d := rd_div (y := 4611686018427387904) (j := 1) hc (by omega) (by omega) (by decide) hz (by rw [v2]; rfl)
      refine cF (nI_nle (by omega) (by omega)) ⟨vf_rr d, m_eq (m_eq ?_)⟩
      rw [show nI (h + 1) + (-1 : Int32) = nI h from pk_m1 h]
      refine ih h _ (by omega) (by omega) ?_
      rw [d]; congr 1; omega
theorem num_46 {n : Nat} {K : UInt64 → Mem → Prop} {c Ht : Nat} (hc : c < 2 ^ 53) (hH : Ht ≤ 1074) (v : UInt64) (hv : FP.Core.val64 v = rd c (-(Ht : Int))) (H : K v M) : ∀ (f h : Nat) (z : UInt64), h < f → h ≤ Ht → FP.Core.val64 z = rd c ((h : Int) - Ht) → w_X5_numberOf_L46 n K f M z (nI h) := by
  intro f
  induction f with
  | zero => intro h z hf; omega
  | succ f ih =>
    intro h z hf hh hz
    by_cases h32 : h < 32
    · exact cT (nI_lt (b := 32) h32 (by decide)) (num_67 hc hH v hv H 4000 h z (by omega) hh hz)
    · have d := rd_div (y := 4751297606875873280) (j := 32) hc (by omega) (by omega) (by decide) hz (by rw [v32]; rfl)
      refine cF (nI_nlt (b := 32) (by omega) (by omega)) ⟨vf_rr d, m_eq (m_eq ?_)⟩
      rw [show nI h + (-32 : Int32) = nI (h - 32) from by
        rw [show (-32 : Int32) = -(nI 32) from rfl, ← Int32.sub_eq_add_neg]
        exact pk_sub (by omega)]
      refine ih (h - 32) _ (by omega) (by omega) ?_
      rw [d]; congr 1; omega
theorem u64_l (w : UInt64) : w.toInt64 = lN w.toNat := by
  show w.toInt64 = (UInt64.ofNat w.toNat).toInt64
  rw [UInt64.ofNat_toNat]
theorem l2d_rd (c : Nat) (hc : c < 2 ^ 60) : FP.Core.val64 (FP.l2d (lN c)) = rd c 0 := by
  show FP.Core.val64 (FP.Core.l2d (lN c)) = _
  rw [FP.Core.val64_l2d, pk_lT (by omega)]
  show FP.Core.roundRatio FP.Core.b64 (decide ((c : Int) < 0)) (c : Int).natAbs 1 0 = _
  rw [decide_eq_false (by omega)]; rfl
theorem number_okx {v : UInt64} (hv : v.toNat ≤ 4696837146684686336) {n : Nat} {K : UInt64 → Mem → Prop} (H : K v M) : w_X5_numberOf n M v.toInt64 K := by
  obtain ⟨E, hE⟩ : ∃ E, E = v.toNat / 4503599627370496 := ⟨_, rfl⟩
  obtain ⟨T, hT⟩ : ∃ T, T = v.toNat % 4503599627370496 := ⟨_, rfl⟩
  have E1 : E ≤ 1042 := by omega
  have T1 : T < 4503599627370496 := by omega
  have fx : FP.Core.val64 v = rd (if E = 0 then T else 4503599627370496 + T) (-(((if E = 0 then 1074 else 1075 - E : Nat)) : Int)) := by
    have f := FP.Core.val64_fits v
    have d : FP.Core.val64 v = .fin false (if E = 0 then T else 4503599627370496 + T) (-(((if E = 0 then 1074 else 1075 - E : Nat)) : Int)) := by
      have fe : FP.Core.fieldE FP.Core.b64 v.toNat = E := by
        show v.toNat / FP.Core.b64.tails % FP.Core.b64.exps = E
        rw [tl64, show FP.Core.b64.exps = 2048 by decide]; omega
      have ft : FP.Core.fieldT FP.Core.b64 v.toNat = T := by
        show v.toNat % FP.Core.b64.tails = T
        rw [tl64]; exact hT.symm
      have fs : FP.Core.fieldS FP.Core.b64 v.toNat = false := by
        show (v.toNat / FP.Core.b64.tails / FP.Core.b64.exps % 2 == 1) = false
        rw [tl64, show FP.Core.b64.exps = 2048 by decide, show v.toNat / 4503599627370496 / 2048 % 2 = 0 by omega]; rfl
      show FP.Core.decode FP.Core.b64 v.toNat = _
      unfold FP.Core.decode
      rw [fe, ft, fs, show FP.Core.b64.exps - 1 = 2047 by decide, if_neg (by omega), tl64, q64]
      by_cases e0 : E = 0
      · rw [if_pos e0, if_pos e0, if_pos e0]; rfl
      · rw [if_neg e0, if_neg e0, if_neg e0]
        congr 1; omega
    rw [d] at f ⊢
    exact (FP.Core.round_of_fits FP.Core.good_b64 f).symm
  have x1 : Int64.toInt32 ((Int64.toUInt64 v.toInt64 >>> ((Int32.toInt64 (52 : Int32)).toUInt64 &&& Int64.toUInt64 63)).toInt64) = nI E := by
    rw [show (Int32.toInt64 (52 : Int32)).toUInt64 &&& Int64.toUInt64 63 = 52 from by decide, show Int64.toUInt64 v.toInt64 = v from by simp, u64_l, lN_i]
    congr 1
    rw [UInt64.toNat_shiftRight, show (52 : UInt64).toNat % 64 = 52 from rfl, Nat.shiftRight_eq_div_pow, e52]
    exact hE.symm
  have y2 : v.toInt64 &&& (4503599627370495 : Int64) = lN T := by
    rw [show v.toInt64 &&& (4503599627370495 : Int64) = (v &&& 4503599627370495).toInt64 from rfl, u64_l]
    congr 1
    rw [UInt64.toNat_and, show (4503599627370495 : UInt64).toNat = 2 ^ 52 - 1 from rfl, Nat.and_two_pow_sub_one_eq_mod, e52]
    exact hT.symm
  refine fun a ha b hb => ?_
  rw [x1] at ha
  rw [y2] at hb
  subst ha
  subst hb
  by_cases e0 : E = 0
  · rw [if_pos e0, if_pos e0] at fx
    rw [e0]
    refine cP rfl (m_eq (cP rfl ?_))
    exact num_46 (c := T) (Ht := 1074) (by omega) (by omega) v fx H 4000 1074 _ (by decide) (by decide) (by rw [l2d_rd T (by omega)]; congr 1)
  · rw [if_neg e0, if_neg e0] at fx
    have n0 : ¬ nI E = 0 := nI_ne0 (by omega) (by omega)
    refine cN n0 (m_eq (cN n0 (m_eq ?_)))
    rw [show (1075 : Int32) - nI E = nI (1075 - E) from pk_sub (a := 1075) (by omega), show lN T + (4503599627370496 : Int64) = lN (T + 4503599627370496) from lN_add T 4503599627370496]
    exact num_46 (c := 4503599627370496 + T) (Ht := 1075 - E) (by omega) (by omega) v fx H 4000 (1075 - E) _ (by omega) (Nat.le_refl _) (by rw [l2d_rd _ (by omega), Nat.add_comm T]; congr 1; omega)
/-! a float's own bits, by doubling -/
theorem d2f_lo {p : UInt64} (hp : PZ p) : (FP.d2f p).toNat ≤ 1148846080 := by
  have nn := pz_nn hp
  unfold PZ at hp
  obtain ⟨c, q, h1, h2, h3⟩ := nf_val (x := p) (by unfold NF; omega)
  have q1 := h2.2.1
  rw [q64] at q1
  rw [FP.d2f_core nn]
  have v : FP.Core.val32 (FP.Core.d2f p) = FP.Core.roundRatio FP.Core.b32 false c 1 q := by rw [FP.Core.val32_d2f, h1]; rfl
  have ne : FP.Core.val32 (FP.Core.d2f p) ≠ .nan := by rw [v]; exact FP.Core.roundRatio_ne_nan _ _ _ _ _
  have sg := FP.Core.sgn_bits32 ne
  rw [v, FP.Core.sgn_roundRatio] at sg
  have s1 := of_decide_eq_false sg.symm
  have m := FP.Core.mag_le FP.Core.good_b32 (n := (FP.Core.d2f p).toNat) v (by decide) (e0 := -1074) (by decide) q1 (m := 1148846080) (by
    have e : FP.Core.inUnits c q (-1074) = U p.toNat := by rw [← h3]; unfold FP.Core.zmag; rw [q64]
    rw [e]
    exact Nat.le_trans (U_le.mpr hp) (by decide +kernel))
  rw [FP.Core.mag_toNat32, Nat.mod_eq_of_lt (by omega)] at m
  exact m
theorem v23 : FP.Core.zval FP.Core.b64 (FP.Core.val64 4710765210229538816) = ((2 ^ 1097 : Nat) : Int) := by decide +kernel
theorem c23 {z : UInt64} {c : Nat} {x : Int} (hc : c < 2 ^ 53) (h1 : -1074 ≤ x) (h2 : x ≤ 971) (h : FP.Core.val64 z = rd c x) : FP.dcmp z 4710765210229538816 = some (compare ((FP.Core.inUnits c x (-1074) : Nat) : Int) ((2 ^ 1097 : Nat) : Int)) := by
  obtain ⟨c', q', e1, e2, e3⟩ := rd_fin c x hc h1 h2
  have ne : FP.Core.val64 z ≠ .nan := by rw [h, e1]; exact fun y => by cases y
  have e : FP.Core.zval FP.Core.b64 (FP.Core.val64 z) = ((FP.Core.inUnits c x (-1074) : Nat) : Int) := by
    rw [h, e1, ← e3]
    unfold FP.Core.zval FP.Core.zmag FP.Core.sgn FP.Core.signed
    rw [q64]; rfl
  show FP.Core.dcmp z _ = _
  rw [FP.Core.dcmp_zval ne ((FP.Core.ne_nan _).mpr (by decide)), e, v23]
theorem c23_lt {z : UInt64} {c d : Nat} (hc : c < 16777216) (h1 : 1 ≤ d) (h2 : d ≤ 149) (h : FP.Core.val64 z = rd c (-(d : Int))) : ¬ 0 ≤ Op.cmpValue (FP.dcmp z 4710765210229538816) CmpOp.g := by
  rw [c23 (by omega) (by omega) (by omega) h]
  have l : compare ((FP.Core.inUnits c (-(d : Int)) (-1074) : Nat) : Int) ((2 ^ 1097 : Nat) : Int) = .lt := by
    refine (FP.Core.compare_lt_iff _ _).mpr (Int.ofNat_lt.mpr ?_)
    unfold FP.Core.inUnits
    obtain ⟨k, hk⟩ : ∃ k, k = (-(d : Int) - -1074).toNat := ⟨_, rfl⟩
    have k1 : k ≤ 1073 := by omega
    rw [← hk]
    refine Nat.lt_of_lt_of_le (Nat.mul_lt_mul_of_pos_right hc (Nat.two_pow_pos k)) ?_
    rw [show (16777216 : Nat) = 2 ^ 24 from rfl, ← Nat.pow_add]
    exact Nat.pow_le_pow_right (by decide) (by omega)
  rw [l]
  decide
theorem c23_ge {z : UInt64} {c : Nat} (hc : c < 16777216) (h1 : 8388608 ≤ c) (h : FP.Core.val64 z = rd c 0) : 0 ≤ Op.cmpValue (FP.dcmp z 4710765210229538816) CmpOp.g := by
  rw [c23 (by omega) (by omega) (by omega) h]
  have l : ((2 ^ 1097 : Nat) : Int) ≤ ((FP.Core.inUnits c 0 (-1074) : Nat) : Int) := by
    refine Int.ofNat_le.mpr ?_
    show 2 ^ 1097 ≤ c * 2 ^ 1074
    refine Nat.le_trans (Nat.le_of_eq ?_) (Nat.mul_le_mul_right _ h1)
    rw [show (8388608 : Nat) = 2 ^ 23 from rfl, ← Nat.pow_add]
  cases e : compare ((FP.Core.inUnits c 0 (-1074) : Nat) : Int) ((2 ^ 1097 : Nat) : Int) with
  | lt => exact absurd ((FP.Core.compare_lt_iff _ _).mp e) (Int.not_lt.mpr l)
  | eq => decide
  | gt => decide
theorem rd0 {z : UInt64} {c : Nat} (hc : c < 16777216) (h : FP.Core.val64 z = rd c 0) : FP.d2i z = nI c := by
  have e : FP.Core.val64 (FP.Core.i2d (nI c)) = rd c 0 := by
    rw [FP.Core.val64_i2d, nI_toInt (by omega)]
    show FP.Core.roundRatio FP.Core.b64 (decide ((c : Int) < 0)) (c : Int).natAbs 1 0 = _
    rw [decide_eq_false (by omega)]; rfl
  have ne : FP.Core.val64 z ≠ .nan := by rw [h]; exact FP.Core.roundRatio_ne_nan _ _ _ _ _
  rw [FP.Core.val64_inj ne (h.trans e.symm)]
  exact FP.Core.d2i_i2d (nI c)
theorem bits_L7 {n : Nat} {K : Int32 → Mem → Prop} {c E : Nat} (hc : c < 16777216) (hE : 1 ≤ E) (hE2 : E ≤ 136) (hcE : 2 ≤ E → 8388608 ≤ c) (H : ((8388608 : Int32) ≤ nI c → K ((nI E <<< ((23 : Int32) &&& 31)) + (nI c - (8388608 : Int32))) M) ∧ (¬ (8388608 : Int32) ≤ nI c → K (nI c) M)) : ∀ (f d : Nat) (z : UInt64), d < f → d + E ≤ 150 → FP.Core.val64 z = rd c (-(d : Int)) → w_X5_bitsOf_L7 n K f M z (nI (E + d)) := by
  intro f
  induction f with
  | zero => intro d z hf; omega
  | succ f ih =>
    intro d z hf hd hz
    cases d with
    | zero =>
      have hz0 : FP.Core.val64 z = rd c 0 := hz
      have r := rd0 hc hz0
      rw [Nat.add_zero]
      refine ⟨fun _ x hx => ?_, fun h1 => ⟨fun _ x hx => ?_, fun h2 => ?_⟩⟩
      · rw [r] at hx; rw [hx]; exact H
      · rw [r] at hx; rw [hx]; exact H
      · refine absurd (c23_ge hc (hcE ?_) hz0) h2
        by_cases g : 2 ≤ E
        · exact g
        · exact absurd (nI_le (a := E) (b := 1) (by omega) (by decide)) h1
    | succ d =>
      refine cF (nI_ge (a := 1) (by omega) (by omega)) (cF (c23_lt hc (by omega) (by omega) hz) ?_)
      have e := rd_dbl (by omega) (by omega) (by omega) hz
      refine ⟨vf_rr e, m_eq (m_eq ?_)⟩
      rw [show nI (E + (d + 1)) + (-1 : Int32) = nI (E + d) from pk_m1 (E + d)]
      refine ih d _ (by omega) (by omega) ?_
      rw [e]
      congr 1; omega
theorem u32_i (w : UInt32) : w.toInt32 = nI w.toNat := by
  show w.toInt32 = (UInt32.ofNat w.toNat).toInt32
  rw [UInt32.ofNat_toNat]
theorem bits_okx {p : UInt64} (hp : PZ p) {K : Int32 → Mem → Prop} (H : K (UInt32.toInt32 (FP.d2f p)) M) : vf_n32 (FP.d2f p) ∧ w_X5_bitsOf (448 + zz) M (FP.d2f p) K := by
  have lo := d2f_lo hp
  have nn : FP.fIsNaN (FP.d2f p) = false := (FP.d2f_nan p).trans (pz_nn hp)
  obtain ⟨x, hx⟩ : ∃ x, x = FP.d2f p := ⟨_, rfl⟩
  rw [← hx] at H lo nn ⊢
  have hv : vf_n32 x := by
    unfold vf_n32
    show (x &&& 0x7fffffff).toNat ≤ (0x7f800000 : UInt32).toNat
    rw [FP.Core.mask_toNat32, Nat.mod_eq_of_lt (by omega)]
    show x.toNat ≤ 2139095040
    omega
  refine ⟨hv, ?_⟩
  rw [u32_i] at H
  obtain ⟨E, hE⟩ : ∃ E, E = x.toNat / 8388608 := ⟨_, rfl⟩
  obtain ⟨T, hT⟩ : ∃ T, T = x.toNat % 8388608 := ⟨_, rfl⟩
  have E1 : E ≤ 136 := by omega
  have T1 : T < 8388608 := by omega
  have nET : x.toNat = E * 8388608 + T := by omega
  rw [nET] at H
  have tl : FP.Core.b32.tails = 8388608 := by decide
  have ex : FP.Core.b32.exps = 256 := by decide
  have fx : FP.Core.val64 (FP.f2d x) = rd (if E = 0 then T else 8388608 + T) (-(((if E = 0 then 149 else 150 - E : Nat)) : Int)) := by
    rw [FP.f2d_core nn, FP.Core.val64_f2d]
    have d : FP.Core.val32 x = .fin false (if E = 0 then T else 8388608 + T) (-(((if E = 0 then 149 else 150 - E : Nat)) : Int)) := by
      have fe : FP.Core.fieldE FP.Core.b32 x.toNat = E := by
        show x.toNat / FP.Core.b32.tails % FP.Core.b32.exps = E
        rw [tl, ex]; omega
      have ft : FP.Core.fieldT FP.Core.b32 x.toNat = T := by
        show x.toNat % FP.Core.b32.tails = T
        rw [tl]; exact hT.symm
      have fs : FP.Core.fieldS FP.Core.b32 x.toNat = false := by
        show (x.toNat / FP.Core.b32.tails / FP.Core.b32.exps % 2 == 1) = false
        rw [tl, ex, show x.toNat / 8388608 / 256 % 2 = 0 by omega]; rfl
      show FP.Core.decode FP.Core.b32 x.toNat = _
      unfold FP.Core.decode
      rw [fe, ft, fs, show FP.Core.b32.exps - 1 = 255 by decide, if_neg (by omega), tl, FP.Core.qmin_b32]
      by_cases e0 : E = 0
      · rw [if_pos e0, if_pos e0, if_pos e0]; rfl
      · rw [if_neg e0, if_neg e0, if_neg e0]
        congr 1; omega
    rw [d]
    rfl
  refine ⟨vf_rr fx, m_eq ?_⟩
  by_cases e0 : E = 0
  · rw [if_pos e0, if_pos e0] at fx
    rw [e0, Nat.zero_mul, Nat.zero_add] at H
    exact bits_L7 (c := T) (E := 1) (by omega) (by decide) (by decide) (by omega) (cF (nI_ge (b := 8388608) T1 (by decide)) H) 4000 149 _ (by decide) (by decide) fx
  · rw [if_neg e0, if_neg e0] at fx
    have k : E + (150 - E) = 150 := by omega
    have := bits_L7 (n := (448 + zz)) (M := M) (K := K) (c := 8388608 + T) (E := E) (by omega) (by omega) E1 (by omega) (cT (nI_le (a := 8388608) (by omega) (by omega)) (by
      rw [show nI E <<< ((23 : Int32) &&& 31) = nI (E * 2 ^ 23) from pk_shlN _ 23 (by decide) (by omega), show nI (8388608 + T) - (8388608 : Int32) = nI T from by
        have := pk_sub (a := 8388608 + T) (b := 8388608) (by omega)
        rw [Nat.add_sub_cancel_left] at this
        exact this, nI_add]
      exact H)) 4000 (150 - E) _ (by omega) (by omega) fx
    rw [k] at this
    exact this

