/-! THE PURE PART, 2: doubles: what the class and the reference compute with -/
def dcz (z : UInt64) : UInt64 := if 0 ≤ Op.cmpValue (FP.dcmp z FP.dconst0) CmpOp.g then z else FP.dconst0
def dec1 (lk : Int32) (by_ p : UInt64) : UInt64 := dcz (FP.dsub p (FP.ddiv (FP.dmul p (FP.i2d lk)) by_))
def decn (lk : Int32) (by_ p : UInt64) : Nat → UInt64
  | 0 => p
  | n + 1 => dec1 lk by_ (decn lk by_ p n)
/-- a pressure: from 0.0 to 1000.0 -/
def PZ (p : UInt64) : Prop := p.toNat ≤ 4652007308841189376
def BY (vol : Nat) : UInt64 := FP.dmul 4652007308841189376 (FP.i2d (nI vol))
/-- a gain behind so many tests; a factor -/
def GR (n : Nat) (g : UInt64) : Prop := 4607182418800017408 ≤ g.toNat + n * 35184372088832 ∧ g.toNat ≤ 4607182418800017408
def FR (f : UInt64) : Prop := f.toNat % 2 ^ 63 < 1900 * 2 ^ 52
def vlE (a b g f : UInt64) (vol n : Nat) : UInt64 := FP.dmul (FP.dmul (FP.ddiv (FP.dmul (FP.dsub a b) (FP.i2d (nI vol))) (FP.i2d (nI n))) g) f
def gnE (g : UInt64) (wear : Nat) : UInt64 := FP.dmul g (FP.dsub FP.dconst1 (FP.ddiv (FP.i2d (nI wear)) 4696837146684686336))
def exE (P q : UInt64) (n : Nat) : UInt64 := FP.ddiv (FP.dmul (FP.dsub P q) 4636737291354636288) (FP.i2d (nI n))
def fcE (e g : UInt64) : UInt64 := FP.ddiv e (FP.dmul e g)
theorem by100 : BY 100 = 4681608360884174848 := by decide +kernel
theorem PZ0 : PZ FP.dconst0 := by unfold PZ; decide
theorem pz_k {p : UInt64} (h : PZ p) : p.toNat ≤ 1033 * 4503599627370496 ∧ NF p := by
  unfold PZ at h
  unfold NF
  omega
theorem by_b {vol : Nat} (h1 : 1 ≤ vol) (h2 : vol ≤ 999) : 1032 * 4503599627370496 ≤ (BY vol).toNat ∧ (BY vol).toNat ≤ 1066 * 4503599627370496 := by
  have i1 := i2d_nf vol (by omega)
  have i2 := i2d_ge vol h1 (by omega)
  have k : (4652007308841189376 : UInt64).toNat = 4652007308841189376 := rfl
  refine ⟨mulKg (x := 4652007308841189376) (y := FP.i2d (nI vol)) 1032 1023 (by unfold NF; decide) (by unfold NF; omega) (by decide) i2 (by decide) (by decide) (by decide) (by decide), mulK (x := 4652007308841189376) (y := FP.i2d (nI vol)) 1033 1056 (by decide) (by omega) (by decide) (by decide) (by decide)⟩
theorem by_ok {vol : Nat} (h1 : 1 ≤ vol) (h2 : vol ≤ 999) : vf_n64 (BY vol) := vf_nf (by have := (by_b h1 h2).2; unfold NF; omega)
theorem neg_cmp {z : UInt64} (h : 2 ^ 63 < z.toNat) (hn : z.toNat % 2 ^ 63 ≤ 9218868437227405312) : ¬ 0 ≤ Op.cmpValue (FP.dcmp z FP.dconst0) CmpOp.g := by
  have e : FP.Core.dcmp z FP.dconst0 = some .lt := by
    refine (FP.Core.dcmp_lt_key ((FP.Core.ne_nan z).mpr hn) ((FP.Core.ne_nan FP.dconst0).mpr (by decide))).mpr ?_
    unfold FP.Core.dkey
    rw [if_pos (by omega), if_neg (by decide)]
    have : FP.dconst0.toNat = 0 := rfl
    omega
  show ¬ 0 ≤ Op.cmpValue (FP.Core.dcmp z FP.dconst0) CmpOp.g
  rw [e]; decide
/-- a leak, in one step -/
theorem dec_all {lk vol : Nat} {p : UInt64} (h : PZ p) (hl : lk ≤ 99999) (h1 : 1 ≤ vol) (h2 : vol ≤ 999) : (FP.dmul p (FP.i2d (nI lk))).toNat ≤ 1066 * 4503599627370496 ∧ (FP.ddiv (FP.dmul p (FP.i2d (nI lk))) (BY vol)).toNat ≤ 1057 * 4503599627370496 ∧ (FP.dsub p (FP.ddiv (FP.dmul p (FP.i2d (nI lk))) (BY vol))).toNat % 2 ^ 63 ≤ 1057 * 4503599627370496 ∧ (dec1 (nI lk) (BY vol) p).toNat ≤ p.toNat := by
  obtain ⟨p1, pn⟩ := pz_k h
  have i1 := i2d_nf lk (by omega)
  obtain ⟨b1, b2⟩ := by_b h1 h2
  have t1 : (FP.dmul p (FP.i2d (nI lk))).toNat ≤ 1066 * 4503599627370496 := mulK 1033 1056 p1 (by omega) (by decide) (by decide) (by decide)
  have x1 : (FP.ddiv (FP.dmul p (FP.i2d (nI lk))) (BY vol)).toNat ≤ 1057 * 4503599627370496 := divK 1066 1032 (by unfold NF; omega) t1 b1 (by decide) (by decide) (by decide)
  have xn : NF (FP.ddiv (FP.dmul p (FP.i2d (nI lk))) (BY vol)) := by unfold NF; omega
  have z1 := sub_mag pn xn (1057 * 4503599627370496) (by omega) x1
  refine ⟨t1, x1, z1, ?_⟩
  unfold dec1 dcz
  by_cases c : (FP.ddiv (FP.dmul p (FP.i2d (nI lk))) (BY vol)).toNat ≤ p.toNat
  · split
    · exact sub_le pn xn c
    · exact Nat.zero_le _
  · rw [if_neg (neg_cmp (sub_neg pn xn (by omega)) (by omega))]
    exact Nat.zero_le _
theorem dec_ok {lk vol : Nat} {p : UInt64} (h : PZ p) (hl : lk ≤ 99999) (h1 : 1 ≤ vol) (h2 : vol ≤ 999) : vf_n64 (FP.dmul p (FP.i2d (nI lk))) ∧ vf_n64 (FP.ddiv (FP.dmul p (FP.i2d (nI lk))) (BY vol)) ∧ vf_n64 (FP.dsub p (FP.ddiv (FP.dmul p (FP.i2d (nI lk))) (BY vol))) ∧ PZ (dec1 (nI lk) (BY vol) p) := by
  obtain ⟨a1, a2, a3, a4⟩ := dec_all h hl h1 h2
  refine ⟨vf_nf (by unfold NF; omega), vf_nf (by unfold NF; omega), vf_of (by omega), ?_⟩
  unfold PZ at h ⊢
  omega
theorem decn_ok {lk vol : Nat} {p : UInt64} (h : PZ p) (hl : lk ≤ 99999) (h1 : 1 ≤ vol) (h2 : vol ≤ 999) (n : Nat) : PZ (decn (nI lk) (BY vol) p n) := by
  induction n with
  | zero => exact h
  | succ n ih => exact (dec_ok ih hl h1 h2).2.2.2
theorem e52 : 2 ^ 52 = 4503599627370496 := by decide
theorem val_ok {a b g f : UInt64} {vol n m : Nat} (ha : PZ a) (hb : PZ b) (hv : vol ≤ 999) (h1 : 1 ≤ n) (h7 : n ≤ 7) (hg : GR m g) (hf : FR f) : vf_n64 (FP.dsub a b) ∧ vf_n64 (FP.dmul (FP.dsub a b) (FP.i2d (nI vol))) ∧ vf_n64 (FP.ddiv (FP.dmul (FP.dsub a b) (FP.i2d (nI vol))) (FP.i2d (nI n))) ∧ vf_n64 (FP.dmul (FP.ddiv (FP.dmul (FP.dsub a b) (FP.i2d (nI vol))) (FP.i2d (nI n))) g) ∧ vf_n64 (vlE a b g f vol n) := by
  obtain ⟨a1, an⟩ := pz_k ha
  obtain ⟨b1, bn⟩ := pz_k hb
  have i1 := i2d_nf vol (by omega)
  have n1 := i2d_nf n (by omega)
  have n2 := i2d_ge n h1 (by omega)
  have d1 := sub_mag an bn (1033 * 4503599627370496) a1 b1
  unfold FR at hf
  have gk := hg.2
  have t1 := FP.Core.dmul_mag (a := FP.dsub a b) (b := FP.i2d (nI vol)) (Ka := 1034) (Kb := 1056) (by rw [e52]; omega) (by rw [e52]; omega) (by decide) (by decide)
  have u1 := FP.Core.ddiv_mag (a := FP.dmul (FP.dsub a b) (FP.i2d (nI vol))) (b := FP.i2d (nI n)) (K := 1068) (L := 1023) (by exact t1) (by rw [e52]; omega) (by rw [e52]; omega) (by decide) (by decide)
  have v1 := FP.Core.dmul_mag (a := FP.ddiv (FP.dmul (FP.dsub a b) (FP.i2d (nI vol))) (FP.i2d (nI n))) (b := g) (Ka := 1069) (Kb := 1024) (by exact u1) (by rw [e52]; omega) (by decide) (by decide)
  have w1 := FP.Core.dmul_mag (a := FP.dmul (FP.ddiv (FP.dmul (FP.dsub a b) (FP.i2d (nI vol))) (FP.i2d (nI n))) g) (b := f) (Ka := 1071) (Kb := 1900) (by exact v1) hf (by decide) (by decide)
  rw [e52] at t1 u1 v1 w1
  refine ⟨vf_of (by omega), vf_of ?_, vf_of ?_, vf_of ?_, vf_of ?_⟩
  · refine Nat.le_trans (Nat.le_of_lt t1) (by decide)
  · refine Nat.le_trans (Nat.le_of_lt u1) (by decide)
  · refine Nat.le_trans (Nat.le_of_lt v1) (by decide)
  · refine Nat.le_trans (Nat.le_of_lt w1) (by decide)
theorem half_ok {a : UInt64} (ha : PZ a) : vf_n64 (FP.ddiv a 4611686018427387904) := by
  have h := divK (x := a) (y := 4611686018427387904) 1033 1024 (by unfold NF; decide) (pz_k ha).1 (by decide) (by decide) (by decide) (by decide)
  exact vf_nf (by unfold NF; omega)
theorem i2d_wear : ∀ w, w < 1001 → (FP.i2d (nI w)).toNat ≤ 1033 * 4503599627370496 := by decide +kernel
theorem i2d_few : ∀ w, w < 8 → (FP.i2d (nI w)).toNat ≤ 1026 * 4503599627370496 := by decide +kernel
theorem ar1 {u v Y : Nat} (a : v + Y ≤ u) (b : u ≤ 512 * Y) : v * 512 ≤ u * 511 := by omega
theorem ar2 {x X Y V : Nat} (ux : Y ≤ x) (d : Y * 2 ^ 17 ≤ V + 1073741824 * X) (l : 4503599627370496 * X ≤ Y * 2 ^ 17) : Y * 2 ^ 17 ≤ V + x := by omega
theorem U_g (m : Nat) (h : 862 * 4503599627370496 ≤ m) : U m * 512 ≤ U (m + 35184372088832) * 511 := by
  obtain ⟨E, t, hG, ht, hE⟩ : ∃ E t, m + 35184372088832 = E * 4503599627370496 + t ∧ t < 4503599627370496 ∧ 1 ≤ E := ⟨(m + 35184372088832) / 4503599627370496, (m + 35184372088832) % 4503599627370496, by omega, by omega, by omega⟩
  obtain ⟨F, rfl⟩ : ∃ F, E = F + 1 := ⟨E - 1, by omega⟩
  have c1 : F * 4503599627370496 ≤ m := by
    rw [Nat.add_mul, Nat.one_mul] at hG
    generalize F * 4503599627370496 = y at hG ⊢
    omega
  have c2 : m + 35184372088832 ≤ (F + 1 + 1) * 4503599627370496 := by
    rw [Nat.add_mul, Nat.one_mul, hG]
    exact Nat.add_le_add_left (Nat.le_of_lt ht) _
  have c3 : 2 ≤ F := by
    refine Nat.le_of_not_lt (fun y => ?_)
    have : (F + 1 + 1) * 4503599627370496 ≤ 3 * 4503599627370496 := Nat.mul_le_mul_right _ (by omega)
    omega
  have a := U_up m F c1 35184372088832
  have b : U (m + 35184372088832) ≤ U ((F + 1 + 1) * 4503599627370496) := U_le.mpr c2
  rw [U_K (F + 1 + 1) (by omega), Nat.add_sub_cancel] at b
  have e : (2 : Nat) ^ (F + 1) = 4 * 2 ^ (F - 1) := by
    obtain ⟨k, rfl⟩ : ∃ k, F = k + 1 := ⟨F - 1, by omega⟩
    rw [Nat.add_sub_cancel, show k + 1 + 1 = 2 + k by omega, Nat.pow_add]
  rw [e] at b
  have b' : U (m + 35184372088832) ≤ 512 * (35184372088832 * 2 ^ (F - 1)) := by
    refine Nat.le_trans b (Nat.le_of_eq ?_)
    rw [← Nat.mul_assoc, ← Nat.mul_assoc]
  exact ar1 a b'
theorem Um : U 4607164826613972992 = 511 * 2 ^ 1065 := by decide +kernel
theorem U1 : U (1023 * 4503599627370496) = 2 ^ 1074 := by decide +kernel
theorem U9 : U (1014 * 4503599627370496) = 2 ^ 1065 := by decide +kernel
theorem gain_ok {m wear : Nat} {g : UInt64} (hg : GR m g) (hm : m ≤ 20480) (hw : wear ≤ 1000) : vf_n64 (FP.ddiv (FP.i2d (nI wear)) 4696837146684686336) ∧ vf_n64 (FP.dsub FP.dconst1 (FP.ddiv (FP.i2d (nI wear)) 4696837146684686336)) ∧ vf_n64 (gnE g wear) ∧ GR (m + 1) (gnE g wear) := by
  have w1 := i2d_wear wear (by omega)
  have x1 : (FP.ddiv (FP.i2d (nI wear)) 4696837146684686336).toNat ≤ 1014 * 4503599627370496 := divK 1033 1042 (by unfold NF; decide) w1 (by decide) (by decide) (by decide) (by decide)
  have xn : NF (FP.ddiv (FP.i2d (nI wear)) 4696837146684686336) := by unfold NF; omega
  have o1 : FP.dconst1.toNat = 1023 * 4503599627370496 := by decide
  have on : NF FP.dconst1 := by unfold NF; decide
  have xl : (FP.ddiv (FP.i2d (nI wear)) 4696837146684686336).toNat ≤ FP.dconst1.toNat := by omega
  have r1 := sub_le on xn xl
  have ux := U_le.mpr x1
  rw [U9] at ux
  have r2 := sub_ge on xn xl 4607164826613972992 (by decide) (by
    rw [Um, o1, U1]
    have e : (2 : Nat) ^ 1074 = 512 * 2 ^ 1065 := by decide +kernel
    rw [e]
    generalize 2 ^ 1065 = X at ux ⊢
    omega)
  have rn : NF (FP.dsub FP.dconst1 (FP.ddiv (FP.i2d (nI wear)) 4696837146684686336)) := by unfold NF; omega
  obtain ⟨g1, g2⟩ := hg
  have gn : NF g := by unfold NF; omega
  have p1 : (gnE g wear).toNat ≤ 1023 * 4503599627370496 := mulK (x := g) 1023 1023 (by omega) (by omega) (by decide) (by decide) (by decide)
  have pn : NF (gnE g wear) := by unfold NF; omega
  refine ⟨vf_nf xn, vf_nf rn, vf_nf pn, ?_, by omega⟩
  have gl : 863 * 4503599627370496 ≤ g.toNat := by omega
  obtain ⟨G, hG⟩ : ∃ G, G + 35184372088832 = g.toNat := ⟨g.toNat - 35184372088832, by omega⟩
  have low := mul_ge gn rn G (by omega) (by
    have a := U_g G (by omega)
    rw [hG] at a
    have b := U_le.mpr r2
    rw [Um] at b
    have c := Nat.mul_le_mul_left (U g.toNat) b
    refine Nat.le_trans ?_ c
    have e : (2 : Nat) ^ 1074 = 512 * 2 ^ 1065 := by decide +kernel
    rw [e, ← Nat.mul_assoc, ← Nat.mul_assoc]
    exact Nat.mul_le_mul_right _ a)
  have low : G ≤ (gnE g wear).toNat := low
  omega
theorem U_sc (a j : Nat) (h : 4503599627370496 ≤ a) : U (a + j * 4503599627370496) = U a * 2 ^ j := by
  unfold U FP.Core.unitsOf
  rw [tl64, if_neg (by omega), if_neg (by omega), show (a + j * 4503599627370496) % 4503599627370496 = a % 4503599627370496 by omega, show (a + j * 4503599627370496) / 4503599627370496 - 1 = (a / 4503599627370496 - 1) + j by omega, Nat.pow_add, Nat.mul_assoc]
/-- a master leak takes something away, in the first step already -/
theorem dec_less {P : UInt64} {lk : Nat} (hP : PZ P) (hP1 : 4607182418800017408 ≤ P.toNat) (hl1 : 1 ≤ lk) (hl : lk ≤ 99999) : (dec1 (nI lk) (BY 100) P).toNat + 1073741824 ≤ P.toNat := by
  obtain ⟨p1, pn⟩ := pz_k hP
  have i1 := i2d_nf lk (by omega)
  have i2 := i2d_ge lk hl1 (by omega)
  have iN : NF (FP.i2d (nI lk)) := by unfold NF; omega
  have bn : NF (BY 100) := by rw [by100]; unfold NF; decide
  have b0 : 0 < (BY 100).toNat := by rw [by100]; decide
  obtain ⟨t1, x1, -, -⟩ := dec_all hP hl (show 1 ≤ 100 by decide) (show 100 ≤ 999 by decide)
  have tn : NF (FP.dmul P (FP.i2d (nI lk))) := by unfold NF; omega
  have xn : NF (FP.ddiv (FP.dmul P (FP.i2d (nI lk))) (BY 100)) := by unfold NF; omega
  have ui := U_le.mpr i2
  rw [U1] at ui
  have t2 := mul_ge pn iN P.toNat (by unfold NF at pn; omega) (Nat.mul_le_mul_left _ ui)
  have ut := U_le.mpr t2
  have ub : U (BY 100).toNat ≤ 2 ^ 17 * 2 ^ 1074 := by
    have : U (BY 100).toNat ≤ U (1040 * 4503599627370496) := U_le.mpr (by rw [by100]; decide)
    refine Nat.le_trans this (Nat.le_of_eq ?_)
    decide +kernel
  obtain ⟨R, hR⟩ : ∃ R, R + 17 * 4503599627370496 = P.toNat := ⟨P.toNat - 17 * 4503599627370496, by omega⟩
  obtain ⟨S, hS⟩ : ∃ S, S + 1073741824 = P.toNat := ⟨P.toNat - 1073741824, by omega⟩
  have us : U R * 2 ^ 17 = U P.toNat := by
    rw [← hR]
    exact (U_sc R 17 (by omega)).symm
  have x2 := div_ge tn bn b0 R (by omega) (by
    refine Nat.le_trans (Nat.mul_le_mul_left _ ub) ?_
    rw [← Nat.mul_assoc, us]
    exact Nat.mul_le_mul_right _ ut)
  have ux := U_le.mpr x2
  unfold dec1 dcz
  by_cases c : (FP.ddiv (FP.dmul P (FP.i2d (nI lk))) (BY 100)).toNat ≤ P.toNat
  · have z := sub_ub pn xn c S (by
      obtain ⟨E, t, hG, ht, hE⟩ : ∃ E t, P.toNat = E * 4503599627370496 + t ∧ t < 4503599627370496 ∧ 1 ≤ E := ⟨P.toNat / 4503599627370496, P.toNat % 4503599627370496, by omega, by omega, by omega⟩
      have c2 : S + 1073741824 ≤ (E + 1) * 4503599627370496 := by
        rw [Nat.add_mul, Nat.one_mul, hS, hG]
        exact Nat.add_le_add_left (Nat.le_of_lt ht) _
      have d := U_dn S E 1073741824 c2
      rw [hS] at d
      have l : U (E * 4503599627370496) ≤ U P.toNat := U_le.mpr (by rw [hG]; exact Nat.le_add_right _ _)
      rw [U_K E hE, ← us] at l
      rw [← us] at d ⊢
      exact ar2 ux d l)
    split
    · omega
    · show 0 + 1073741824 ≤ _
      omega
  · rw [if_neg (neg_cmp (sub_neg pn xn (by omega)) ?_)]
    · show 0 + 1073741824 ≤ _
      omega
    · have := sub_mag pn xn (1057 * 4503599627370496) (by omega) x1
      omega
theorem decn_less {P : UInt64} {lk : Nat} (hP : PZ P) (hP1 : 4607182418800017408 ≤ P.toNat) (hl1 : 1 ≤ lk) (hl : lk ≤ 99999) : ∀ n, PZ (decn (nI lk) (BY 100) P n) ∧ (decn (nI lk) (BY 100) P (n + 1)).toNat + 1073741824 ≤ P.toNat := by
  intro n
  induction n with
  | zero => exact ⟨hP, dec_less hP hP1 hl1 hl⟩
  | succ n ih =>
    have z : PZ (decn (nI lk) (BY 100) P (n + 1)) := (dec_ok ih.1 hl (show 1 ≤ 100 by decide) (show 100 ≤ 999 by decide)).2.2.2
    have le : (decn (nI lk) (BY 100) P (n + 1 + 1)).toNat ≤ (decn (nI lk) (BY 100) P (n + 1)).toNat := (dec_all z hl (show 1 ≤ 100 by decide) (show 100 ≤ 999 by decide)).2.2.2
    exact ⟨z, by omega⟩
theorem cal_ok {P g : UInt64} {lk n m : Nat} (hP : PZ P) (hP1 : 4607182418800017408 ≤ P.toNat) (hl1 : 1 ≤ lk) (hl : lk ≤ 99999) (h1 : 1 ≤ n) (h7 : n ≤ 7) (hg : GR m g) (hm : m ≤ 20480) : vf_n64 (FP.dsub P (decn (nI lk) (BY 100) P n)) ∧ vf_n64 (FP.dmul (FP.dsub P (decn (nI lk) (BY 100) P n)) 4636737291354636288) ∧ vf_n64 (exE P (decn (nI lk) (BY 100) P n) n) ∧ vf_n64 (FP.dmul (exE P (decn (nI lk) (BY 100) P n) n) g) ∧ vf_n64 (fcE (exE P (decn (nI lk) (BY 100) P n) n) g) ∧ FR (fcE (exE P (decn (nI lk) (BY 100) P n) n) g) ∧ ¬ Op.cmpValue (FP.dcmp g 118622047889322841) CmpOp.l ≤ 0 := by
  obtain ⟨p1, pn⟩ := pz_k hP
  obtain ⟨k, rfl⟩ : ∃ k, n = k + 1 := ⟨n - 1, by omega⟩
  have ql := (decn_less hP hP1 hl1 hl k).2
  have qz := (decn_less hP hP1 hl1 hl (k + 1)).1
  obtain ⟨q1, qn⟩ := pz_k qz
  obtain ⟨Qv, hQ⟩ : ∃ Qv, Qv = decn (nI lk) (BY 100) P (k + 1) := ⟨_, rfl⟩
  rw [← hQ] at ql qz q1 qn ⊢
  have n1 := i2d_few (k + 1) (by omega)
  have n2 := i2d_ge (k + 1) h1 (by omega)
  have nn : NF (FP.i2d (nI (k + 1))) := by unfold NF; omega
  obtain ⟨g1, g2⟩ := hg
  have gn : NF g := by unfold NF; omega
  have gl : 863 * 4503599627370496 ≤ g.toNat := by omega
  have gl3 : 118622047889322841 < g.toNat := Nat.lt_of_lt_of_le (by decide) gl
  have w1 := sub_le pn qn (by omega)
  obtain ⟨S, hS⟩ : ∃ S, S + 1073741824 = P.toNat := ⟨P.toNat - 1073741824, by omega⟩
  have w2 := sub_ge pn qn (by omega) (1000 * 4503599627370496) (by decide) (by
    have a := U_up S 1022 (by omega) 1073741824
    rw [hS] at a
    have b : U Qv.toNat ≤ U S := U_le.mpr (by omega)
    have c : U (1000 * 4503599627370496) = 1073741824 * 2 ^ (1022 - 1) := by decide +kernel
    rw [c]
    revert a b
    generalize 1073741824 * 2 ^ (1022 - 1) = X
    generalize U Qv.toNat = u
    generalize U S = v
    generalize U P.toNat = y
    intro a b
    omega)
  obtain ⟨W, hW⟩ : ∃ W, W = FP.dsub P Qv := ⟨_, rfl⟩
  unfold fcE exE
  rw [← hW] at w1 w2 ⊢
  have wn : NF W := by unfold NF; omega
  have hn : NF (4636737291354636288 : UInt64) := by unfold NF; decide
  have t1 : (FP.dmul W 4636737291354636288).toNat ≤ 1040 * 4503599627370496 := mulK 1033 1030 (by omega) (by decide) (by decide) (by decide) (by decide)
  have t2 : 1006 * 4503599627370496 ≤ (FP.dmul W 4636737291354636288).toNat := mulKg 1000 1029 wn hn w2 (by decide) (by decide) (by decide) (by decide) (by decide)
  have tn : NF (FP.dmul W 4636737291354636288) := by unfold NF; omega
  have e1 : (FP.ddiv (FP.dmul W 4636737291354636288) (FP.i2d (nI (k + 1)))).toNat ≤ 1040 * 4503599627370496 := divK 1040 1023 nn t1 n2 (by decide) (by decide) (by decide)
  have e2 : 1003 * 4503599627370496 ≤ (FP.ddiv (FP.dmul W 4636737291354636288) (FP.i2d (nI (k + 1)))).toNat := divKg 1006 1026 tn t2 n1 (by omega) (by decide) (by decide) (by decide) (by decide)
  obtain ⟨X, hX⟩ : ∃ X, X = FP.ddiv (FP.dmul W 4636737291354636288) (FP.i2d (nI (k + 1))) := ⟨_, rfl⟩
  rw [← hX] at e1 e2 ⊢
  have en : NF X := by unfold NF; omega
  have m1 : (FP.dmul X g).toNat ≤ 1040 * 4503599627370496 := mulK 1040 1023 e1 (by omega) (by decide) (by decide) (by decide)
  have m2 : 843 * 4503599627370496 ≤ (FP.dmul X g).toNat := mulKg 1003 863 en gn e2 gl (by decide) (by decide) (by decide) (by decide)
  have mn : NF (FP.dmul X g) := by unfold NF; omega
  have f1 : (FP.ddiv X (FP.dmul X g)).toNat ≤ 1220 * 4503599627370496 := divK 1040 843 mn e1 m2 (by decide) (by decide) (by decide)
  have fn : NF (FP.ddiv X (FP.dmul X g)) := by unfold NF; omega
  refine ⟨vf_nf wn, vf_nf tn, vf_nf en, vf_nf mn, vf_nf fn, ?_, ?_⟩
  · unfold FR
    rw [e52]
    unfold NF at fn
    rw [Nat.mod_eq_of_lt (by omega)]
    omega
  · have k0 : (118622047889322841 : UInt64).toNat = 118622047889322841 := rfl
    have c : FP.Core.dcmp g 118622047889322841 = some .gt := by
      refine (FP.Core.dcmp_gt_key ((FP.Core.ne_nan g).mpr (by unfold NF at gn; rw [Nat.mod_eq_of_lt (by omega)]; omega)) ((FP.Core.ne_nan _).mpr (by decide))).mpr ?_
      unfold FP.Core.dkey
      unfold NF at gn
      rw [if_neg (by decide), if_neg (by omega)]
      exact Int.ofNat_lt.mpr gl3
    show ¬ Op.cmpValue (FP.Core.dcmp g 118622047889322841) CmpOp.l ≤ 0
    rw [c]; decide

