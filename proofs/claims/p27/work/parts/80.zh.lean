/-! p27, 11: a factor times its gain is nearly 1.0 -/
theorem arr {u X k : Nat} (a : k * X ≤ u) : (u + X) * k ≤ u * (k + 1) := by
  rw [Nat.add_mul, Nat.mul_succ, Nat.mul_comm X k]
  exact Nat.add_le_add_left a _
theorem U_rel (m : Nat) (h : 4503599627370496 ≤ m) : U (m + 1) * 4503599627370496 ≤ U m * 4503599627370497 := by
  obtain ⟨E, hE⟩ : ∃ E, E = m / 4503599627370496 := ⟨_, rfl⟩
  have h1 : 1 ≤ E := by omega
  have h2 : E * 4503599627370496 ≤ m := by omega
  have a := U_le.mpr h2
  rw [U_K E h1] at a
  rw [U_step, ← hE]
  exact arr a
theorem rel_up {P Q T F a b k l : Nat} (hQ : 0 < Q) (hT : 0 < T) (h1 : a * b * k ≤ Q * T * l) (h4 : F * Q * k ≤ a * T * l) (h6 : P * T * k ≤ F * b * l) : P * (k * k * k) ≤ T * (l * l * l) := by
  have A := Nat.mul_le_mul_right (Q * k * k) h6
  have B := Nat.mul_le_mul_right (b * l * k) h4
  have C := Nat.mul_le_mul_right (T * l * l) h1
  have e1 : F * b * l * (Q * k * k) = F * Q * k * (b * l * k) := by ac_rfl
  have e2 : a * T * l * (b * l * k) = a * b * k * (T * l * l) := by ac_rfl
  rw [e1] at A
  rw [e2] at B
  have D := Nat.le_trans A (Nat.le_trans B C)
  have e3 : P * T * k * (Q * k * k) = P * (k * k * k) * (Q * T) := by ac_rfl
  have e4 : Q * T * l * (T * l * l) = T * (l * l * l) * (Q * T) := by ac_rfl
  rw [e3, e4] at D
  exact Nat.le_of_mul_le_mul_right D (Nat.mul_pos hQ hT)
theorem rel_dn {P Q T F a b k l : Nat} (hQ : 0 < Q) (hT : 0 < T) (h2 : Q * T * k ≤ a * b * l) (h3 : a * T * k ≤ F * Q * l) (h5 : F * b * k ≤ P * T * l) : T * (k * k * k) ≤ P * (l * l * l) := by
  have A := Nat.mul_le_mul_right (T * k * k) h2
  have B := Nat.mul_le_mul_right (b * l * k) h3
  have C := Nat.mul_le_mul_right (Q * l * l) h5
  have e1 : a * b * l * (T * k * k) = a * T * k * (b * l * k) := by ac_rfl
  have e2 : F * Q * l * (b * l * k) = F * b * k * (Q * l * l) := by ac_rfl
  rw [e1] at A
  rw [e2] at B
  have D := Nat.le_trans A (Nat.le_trans B C)
  have e3 : Q * T * k * (T * k * k) = T * (k * k * k) * (Q * T) := by ac_rfl
  have e4 : P * T * l * (Q * l * l) = P * (l * l * l) * (Q * T) := by ac_rfl
  rw [e3, e4] at D
  exact Nat.le_of_mul_le_mul_right D (Nat.mul_pos hQ hT)
theorem mul_rel {x y : UInt64} (hx : NF x) (hy : NF y) (hq : NF (FP.dmul x y)) (h1 : 4503599627370497 ≤ (FP.dmul x y).toNat) : U x.toNat * U y.toNat * 4503599627370496 ≤ U (FP.dmul x y).toNat * 2 ^ 1074 * 4503599627370497 ∧ U (FP.dmul x y).toNat * 2 ^ 1074 * 4503599627370496 ≤ U x.toNat * U y.toNat * 4503599627370497 := by
  obtain ⟨q, hqq⟩ : ∃ q, q + 1 = (FP.dmul x y).toNat := ⟨(FP.dmul x y).toNat - 1, by omega⟩
  have r1 := U_rel (FP.dmul x y).toNat (by omega)
  have r2 := U_rel q (by omega)
  unfold NF at hq
  have n1 : ¬ U ((FP.dmul x y).toNat + 1) * 2 ^ 1074 ≤ U x.toNat * U y.toNat := fun c => by
    have := mul_ge hx hy ((FP.dmul x y).toNat + 1) (by omega) c; omega
  have n2 : ¬ U x.toNat * U y.toNat ≤ U q * 2 ^ 1074 := fun c => by
    have := mul_le hx hy q c; omega
  rw [hqq] at r2
  have m1 := Nat.mul_le_mul_right (2 ^ 1074) r1
  have m2 := Nat.mul_le_mul_right (2 ^ 1074) r2
  revert n1 n2 m1 m2
  generalize U x.toNat * U y.toNat = XY
  generalize U ((FP.dmul x y).toNat + 1) = V
  generalize U (FP.dmul x y).toNat = W
  generalize U q = Z
  generalize 2 ^ 1074 = T
  intro n1 n2 m1 m2
  rw [Nat.mul_right_comm V, Nat.mul_right_comm W] at m1
  rw [Nat.mul_right_comm W, Nat.mul_right_comm Z] at m2
  generalize V * T = vt at *
  generalize W * T = wt at *
  generalize Z * T = zt at *
  omega
theorem div_rel {x y : UInt64} (hx : NF x) (hy : NF y) (y0 : 0 < y.toNat) (hq : NF (FP.ddiv x y)) (h1 : 4503599627370497 ≤ (FP.ddiv x y).toNat) : U x.toNat * 2 ^ 1074 * 4503599627370496 ≤ U (FP.ddiv x y).toNat * U y.toNat * 4503599627370497 ∧ U (FP.ddiv x y).toNat * U y.toNat * 4503599627370496 ≤ U x.toNat * 2 ^ 1074 * 4503599627370497 := by
  obtain ⟨q, hqq⟩ : ∃ q, q + 1 = (FP.ddiv x y).toNat := ⟨(FP.ddiv x y).toNat - 1, by omega⟩
  have r1 := U_rel (FP.ddiv x y).toNat (by omega)
  have r2 := U_rel q (by omega)
  unfold NF at hq
  have n1 : ¬ U ((FP.ddiv x y).toNat + 1) * U y.toNat ≤ U x.toNat * 2 ^ 1074 := fun c => by
    have := div_ge hx hy y0 ((FP.ddiv x y).toNat + 1) (by omega) c; omega
  have n2 : ¬ U x.toNat * 2 ^ 1074 ≤ U q * U y.toNat := fun c => by
    have := div_le hx hy y0 q c; omega
  rw [hqq] at r2
  have m1 := Nat.mul_le_mul_right (U y.toNat) r1
  have m2 := Nat.mul_le_mul_right (U y.toNat) r2
  revert n1 n2 m1 m2
  generalize U x.toNat * 2 ^ 1074 = XY
  generalize U ((FP.ddiv x y).toNat + 1) = V
  generalize U (FP.ddiv x y).toNat = W
  generalize U q = Z
  generalize U y.toNat = T
  intro n1 n2 m1 m2
  rw [Nat.mul_right_comm V, Nat.mul_right_comm W] at m1
  rw [Nat.mul_right_comm W, Nat.mul_right_comm Z] at m2
  generalize V * T = vt at *
  generalize W * T = wt at *
  generalize Z * T = zt at *
  omega
/-- a difference's size, whichever way -/
theorem sub_ub2 {x y : UInt64} (hx : NF x) (hy : NF y) (m : Nat) (h1 : U x.toNat ≤ U m + U y.toNat) (h2 : U y.toNat ≤ U m + U x.toNat) : (FP.dsub x y).toNat % 2 ^ 63 ≤ m := by
  obtain ⟨sg, n, e, hv, he, hs, hi⟩ := sub_val hx hy
  refine rr_le hv (by decide) (Int.le_refl _) he ?_
  rw [hi, show (-1074 - -1074 : Int).toNat = 0 from rfl]
  omega
theorem near_ok {x : UInt64} (h : x.toNat % 2 ^ 63 ≤ 1003 * 4503599627370496) : vf_n64 x ∧ ¬ 0 ≤ Op.cmpValue (FP.dcmp x 4517329193108106637) CmpOp.g ∧ ¬ Op.cmpValue (FP.dcmp x 13740701229962882445) CmpOp.l ≤ 0 := by
  have nx : FP.Core.val64 x ≠ .nan := (FP.Core.ne_nan x).mpr (by omega)
  have xl : x.toNat < 2 ^ 64 := x.toNat_lt
  refine ⟨vf_of (by omega), ?_, ?_⟩
  · have c : FP.Core.dcmp x 4517329193108106637 = some .lt := by
      refine (FP.Core.dcmp_lt_key nx ((FP.Core.ne_nan _).mpr (by decide))).mpr ?_
      unfold FP.Core.dkey
      have k0 : (4517329193108106637 : UInt64).toNat = 4517329193108106637 := rfl
      rw [k0, if_neg (show ¬ 2 ^ 63 ≤ 4517329193108106637 by decide)]
      by_cases y : 2 ^ 63 ≤ x.toNat
      · rw [if_pos y]; omega
      · rw [if_neg y]; omega
    show ¬ 0 ≤ Op.cmpValue (FP.Core.dcmp x 4517329193108106637) CmpOp.g
    rw [c]; decide
  · have c : FP.Core.dcmp x 13740701229962882445 = some .gt := by
      refine (FP.Core.dcmp_gt_key nx ((FP.Core.ne_nan _).mpr (by decide))).mpr ?_
      unfold FP.Core.dkey
      have k0 : (13740701229962882445 : UInt64).toNat = 13740701229962882445 := rfl
      rw [k0, if_pos (show 2 ^ 63 ≤ 13740701229962882445 by decide)]
      by_cases y : 2 ^ 63 ≤ x.toNat
      · rw [if_pos y]; omega
      · rw [if_neg y]; omega
    show ¬ Op.cmpValue (FP.Core.dcmp x 13740701229962882445) CmpOp.l ≤ 0
    rw [c]; decide
/-- what a calibration computes with, between bounds -/
theorem cal_bnd {P g : UInt64} {lk n m : Nat} (hP : PZ P) (hP1 : 4607182418800017408 ≤ P.toNat) (hl1 : 1 ≤ lk) (hl : lk ≤ 99999) (h1 : 1 ≤ n) (h7 : n ≤ 7) (hg : GR m g) (hm : m ≤ 20480) : ∃ X, X = exE P (decn (nI lk) (BY 100) P n) n ∧ NF X ∧ NF g ∧ 1003 * 4503599627370496 ≤ X.toNat ∧ (NF (FP.dmul X g) ∧ 843 * 4503599627370496 ≤ (FP.dmul X g).toNat) ∧ (NF (FP.ddiv X (FP.dmul X g)) ∧ 986 * 4503599627370496 ≤ (FP.ddiv X (FP.dmul X g)).toNat ∧ (FP.ddiv X (FP.dmul X g)).toNat ≤ 1220 * 4503599627370496) ∧ 863 * 4503599627370496 ≤ g.toNat ∧ g.toNat ≤ 1023 * 4503599627370496 := by
  obtain ⟨p1, pn⟩ := pz_k hP
  obtain ⟨k, rfl⟩ : ∃ k, n = k + 1 := ⟨n - 1, by omega⟩
  have ql := (decn_less hP hP1 hl1 hl k).2
  have qz := (decn_less hP hP1 hl1 hl (k + 1)).1
  obtain ⟨q1, qn⟩ := pz_k qz
  obtain ⟨Qv, hQ⟩ : ∃ Qv, Qv = decn (nI lk) (BY 100) P (k + 1) := ⟨_, rfl⟩
  rw [← hQ] at ql qz q1 qn ⊢
  have n1 := i2d_few (k + 1) (by omega)
  have n2 := i2d_ge (k + 1) h1 (by omega)
  have nn : NF (FP.i2d (nI (k + 1))) := by unfold NF; omega
  obtain ⟨g1, g2⟩ := hg
  have gn : NF g := by unfold NF; omega
  have gl : 863 * 4503599627370496 ≤ g.toNat := by omega
  have w1 := sub_le pn qn (by omega)
  obtain ⟨S, hS⟩ : ∃ S, S + 1073741824 = P.toNat := ⟨P.toNat - 1073741824, by omega⟩
  have w2 := sub_ge pn qn (by omega) (1000 * 4503599627370496) (by decide) (by
    have a := U_up S 1022 (by omega) 1073741824
    rw [hS] at a
    have b : U Qv.toNat ≤ U S := U_le.mpr (by omega)
    have c : U (1000 * 4503599627370496) = 1073741824 * 2 ^ (1022 - 1) := by decide +kernel
    rw [c]
    revert a b
    generalize 1073741824 * 2 ^ (1022 - 1) = X
    generalize U Qv.toNat = u
    generalize U S = v
    generalize U P.toNat = y
    intro a b
    omega)
  obtain ⟨W, hW⟩ : ∃ W, W = FP.dsub P Qv := ⟨_, rfl⟩
  unfold exE
  rw [← hW] at w1 w2 ⊢
  have wn : NF W := by unfold NF; omega
  have hn : NF (4636737291354636288 : UInt64) := by unfold NF; decide
  have t1 : (FP.dmul W 4636737291354636288).toNat ≤ 1040 * 4503599627370496 := mulK 1033 1030 (by omega) (by decide) (by decide) (by decide) (by decide)
  have t2 : 1006 * 4503599627370496 ≤ (FP.dmul W 4636737291354636288).toNat := mulKg 1000 1029 wn hn w2 (by decide) (by decide) (by decide) (by decide) (by decide)
  have tn : NF (FP.dmul W 4636737291354636288) := by unfold NF; omega
  have e1 : (FP.ddiv (FP.dmul W 4636737291354636288) (FP.i2d (nI (k + 1)))).toNat ≤ 1040 * 4503599627370496 := divK 1040 1023 nn t1 n2 (by decide) (by decide) (by decide)
  have e2 : 1003 * 4503599627370496 ≤ (FP.ddiv (FP.dmul W 4636737291354636288) (FP.i2d (nI (k + 1)))).toNat := divKg 1006 1026 tn t2 n1 (by omega) (by decide) (by decide) (by decide) (by decide)
  obtain ⟨X, hX⟩ : ∃ X, X = FP.ddiv (FP.dmul W 4636737291354636288) (FP.i2d (nI (k + 1))) := ⟨_, rfl⟩
  rw [← hX] at e1 e2 ⊢
  have en : NF X := by unfold NF; omega
  have m1 : (FP.dmul X g).toNat ≤ 1040 * 4503599627370496 := mulK 1040 1023 e1 (by omega) (by decide) (by decide) (by decide)
  have m2 : 843 * 4503599627370496 ≤ (FP.dmul X g).toNat := mulKg 1003 863 en gn e2 gl (by decide) (by decide) (by decide) (by decide)
  have mn : NF (FP.dmul X g) := by unfold NF; omega
  have f1 : (FP.ddiv X (FP.dmul X g)).toNat ≤ 1220 * 4503599627370496 := divK 1040 843 mn e1 m2 (by decide) (by decide) (by decide)
  have f2 : 986 * 4503599627370496 ≤ (FP.ddiv X (FP.dmul X g)).toNat := divKg 1003 1040 en e2 m1 (by omega) (by decide) (by decide) (by decide) (by decide)
  exact ⟨X, rfl, en, gn, e2, ⟨mn, m2⟩, ⟨by unfold NF; omega, f2, f1⟩, gl, by omega⟩
theorem fin_up {P X k l : Nat} (hk : 0 < k) (c : l * l * l * 1048576 ≤ k * k * k * 1048577) (h : P * (k * k * k) ≤ X * 1048576 * (l * l * l)) : P ≤ X * 1048577 := by
  have h3 : 0 < k * k * k := Nat.mul_pos (Nat.mul_pos hk hk) hk
  generalize k * k * k = K at *
  generalize l * l * l = L at *
  have a : P * K ≤ X * (L * 1048576) := by
    have : X * 1048576 * L = X * (L * 1048576) := by rw [Nat.mul_assoc, Nat.mul_comm 1048576 L]
    rw [← this]; exact h
  have b := Nat.mul_le_mul_left X c
  have d := Nat.le_trans a b
  have e : X * (K * 1048577) = X * 1048577 * K := by rw [Nat.mul_comm K, Nat.mul_assoc]
  rw [e] at d
  exact Nat.le_of_mul_le_mul_right d h3
theorem ar78 {u v X c : Nat} (g : v + c ≤ u) (f : u + X ≤ v) (h : 0 < c) : False := by omega
theorem fin_dn {P X k l : Nat} (hk : 0 < k) (hX : 0 < X) (c : l * l * l * 1048576 ≤ k * k * k * 1048577) (h : X * 1048576 * (k * k * k) ≤ P * (l * l * l)) : X * 1048575 ≤ P := by
  have h3 : 0 < k * k * k := Nat.mul_pos (Nat.mul_pos hk hk) hk
  generalize k * k * k = K at *
  generalize l * l * l = L at *
  have a := Nat.mul_le_mul_right 1048576 h
  have b := Nat.mul_le_mul_left P c
  have e1 : P * L * 1048576 = P * (L * 1048576) := Nat.mul_assoc _ _ _
  rw [e1] at a
  have d := Nat.le_trans a b
  have e2 : X * 1048576 * K * 1048576 = X * 1048576 * 1048576 * K := by rw [Nat.mul_right_comm]
  have e3 : P * (K * 1048577) = P * 1048577 * K := by rw [Nat.mul_comm K, Nat.mul_assoc]
  rw [e2, e3] at d
  have f := Nat.le_of_mul_le_mul_right d h3
  refine Nat.le_of_not_lt (fun y => ?_)
  have g := Nat.mul_le_mul_right 1048577 y
  rw [Nat.succ_mul] at g
  have e4 : X * 1048575 * 1048577 + X = X * 1048576 * 1048576 := by rw [Nat.mul_assoc, Nat.mul_assoc, ← Nat.mul_succ]
  rw [← e4] at f
  exact ar78 g f (by decide)
set_option maxRecDepth 20000 in
theorem lk3 : 4503599627370497 * 4503599627370497 * 4503599627370497 * 1048576 ≤ 4503599627370496 * 4503599627370496 * 4503599627370496 * 1048577 := by decide +kernel
theorem U_1054 : U (1003 * 4503599627370496) = 2 ^ 1054 := by decide +kernel
theorem T_1054 : 2 ^ 1074 = 2 ^ 1054 * 1048576 := by decide +kernel
theorem ar76 {a x : Nat} (h : a ≤ x * 1048577) : a ≤ x + x * 1048576 := by omega
theorem ar77 {a x : Nat} (h : x * 1048575 ≤ a) : x * 1048576 ≤ x + a := by
  rw [show 1048576 = 1048575 + 1 from rfl, Nat.mul_succ, Nat.add_comm]
  exact Nat.add_le_add_left h x
theorem cal_fac {P g : UInt64} {lk n m : Nat} (hP : PZ P) (hP1 : 4607182418800017408 ≤ P.toNat) (hl1 : 1 ≤ lk) (hl : lk ≤ 99999) (h1 : 1 ≤ n) (h7 : n ≤ 7) (hg : GR m g) (hm : m ≤ 20480) (f : UInt64) (hf : f = fcE (exE P (decn (nI lk) (BY 100) P n) n) g) : f.toNat < 2 ^ 63 ∧ vf_n64 (FP.dmul f g) ∧ vf_n64 (FP.dsub (FP.dmul f g) FP.dconst1) ∧ ¬ 0 ≤ Op.cmpValue (FP.dcmp (FP.dsub (FP.dmul f g) FP.dconst1) 4517329193108106637) CmpOp.g ∧ ¬ Op.cmpValue (FP.dcmp (FP.dsub (FP.dmul f g) FP.dconst1) 13740701229962882445) CmpOp.l ≤ 0 ∧ (Op.cmpValue (FP.dcmp g FP.dconst1) CmpOp.l = 0 → Op.cmpValue (FP.dcmp f FP.dconst1) CmpOp.l = 0) := by
  obtain ⟨X, hX, en, gn, e2, ⟨mn, m2⟩, ⟨fn, f2, f1⟩, gl, gu⟩ := cal_bnd hP hP1 hl1 hl h1 h7 hg hm
  have hf2 : f = FP.ddiv X (FP.dmul X g) := by rw [hf, hX]; rfl
  rw [← hf2] at fn f1 f2
  have c1 : FP.dconst1.toNat = 1023 * 4503599627370496 := rfl
  have n1 : NF FP.dconst1 := by unfold NF; rw [c1]; decide
  have p1 : (FP.dmul f g).toNat ≤ 1220 * 4503599627370496 := mulK 1220 1023 f1 gu (by decide) (by decide) (by decide)
  have p2 : 826 * 4503599627370496 ≤ (FP.dmul f g).toNat := mulKg 986 863 fn gn f2 gl (by decide) (by decide) (by decide) (by decide)
  have pn : NF (FP.dmul f g) := by unfold NF; omega
  have qb : 1 * 4503599627370496 ≤ (FP.dmul X g).toNat := by omega
  have gb : g.toNat ≤ 9218868437227405312 := by omega
  have xb : X.toNat ≤ 9218868437227405312 := by unfold NF at en; omega
  have x0 : 0 < X.toNat := by omega
  have fb : f.toNat < 2 ^ 63 := by unfold NF at fn; omega
  obtain ⟨r1, r2⟩ := mul_rel en gn mn (by omega)
  obtain ⟨r3, r4⟩ := div_rel en mn (by omega) (by rw [← hf2]; exact fn) (by rw [← hf2]; omega)
  rw [← hf2] at r3 r4
  obtain ⟨r5, r6⟩ := mul_rel fn gn pn (by omega)
  have U1' : U FP.dconst1.toNat = 2 ^ 1074 := by rw [c1]; exact U1
  have QP : 0 < U (FP.dmul X g).toNat := by
    have := U_le.mpr qb
    rw [U_K 1 (Nat.le_refl _)] at this
    exact Nat.lt_of_lt_of_le (by decide) this
  have up := rel_up QP (Nat.two_pow_pos 1074) r1 r4 r6
  have dn := rel_dn QP (Nat.two_pow_pos 1074) r2 r3 r5
  have k0 : 0 < 4503599627370496 := by decide
  have X0 : 0 < 2 ^ 1054 := Nat.two_pow_pos 1054
  rw [T_1054] at up dn
  have u2 := fin_up k0 lk3 up
  have d2 := fin_dn k0 X0 lk3 dn
  have near : (FP.dsub (FP.dmul f g) FP.dconst1).toNat % 2 ^ 63 ≤ 1003 * 4503599627370496 := by
    refine sub_ub2 pn n1 _ ?_ ?_
    · rw [U_1054, U1', T_1054]
      exact ar76 u2
    · rw [U_1054, U1', T_1054]
      exact ar77 d2
  obtain ⟨v1, v2, v3⟩ := near_ok near
  refine ⟨fb, vf_nf pn, v1, v2, v3, fun hg1 => ?_⟩
  have ge : g.toNat = FP.dconst1.toNat := (dc_eq gb (by rw [c1]; decide)).mp hg1
  have gg : g = FP.dconst1 := UInt64.toNat_inj.mp ge
  have m1 : FP.dmul X g = X := by
    rw [gg]
    have a := mul_le en n1 X.toNat (by rw [U1']; exact Nat.le_refl _)
    have b := mul_ge en n1 X.toNat xb (by rw [U1']; exact Nat.le_refl _)
    exact UInt64.toNat_inj.mp (Nat.le_antisymm a b)
  have fe : f = FP.dconst1 := by
    rw [hf2, m1]
    have a := div_le en en x0 FP.dconst1.toNat (by rw [U1', Nat.mul_comm]; exact Nat.le_refl _)
    have b := div_ge en en x0 FP.dconst1.toNat (by rw [c1]; decide) (by rw [U1', Nat.mul_comm]; exact Nat.le_refl _)
    exact UInt64.toNat_inj.mp (Nat.le_antisymm a b)
  rw [fe]
  decide +kernel
