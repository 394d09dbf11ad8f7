/-! doubles, by their bits: products, quotients, differences, between bounds -/
abbrev U (n : Nat) : Nat := FP.Core.unitsOf FP.Core.b64 n
theorem tl64 : FP.Core.b64.tails = 4503599627370496 := by decide
theorem U_step (m : Nat) : U (m + 1) = U m + 2 ^ (m / 4503599627370496 - 1) := by
  unfold U FP.Core.unitsOf
  rw [tl64]
  by_cases h1 : m + 1 < 4503599627370496
  · rw [if_pos h1, if_pos (by omega), Nat.div_eq_of_lt (by omega)]
  · rw [if_neg h1]
    by_cases h2 : m < 4503599627370496
    · have e : m + 1 = 4503599627370496 := by omega
      rw [if_pos h2, e, Nat.div_eq_of_lt h2]
      show (4503599627370496 + 0) * 2 ^ 0 = _
      omega
    · rw [if_neg h2]
      by_cases h3 : (m + 1) % 4503599627370496 = 0
      · have e1 : (m + 1) / 4503599627370496 = m / 4503599627370496 + 1 := by omega
        have e2 : m % 4503599627370496 = 4503599627370495 := by omega
        obtain ⟨k, hk⟩ : ∃ k, m / 4503599627370496 = k + 1 := ⟨m / 4503599627370496 - 1, by omega⟩
        rw [h3, e1, e2, hk, Nat.add_sub_cancel, Nat.add_sub_cancel, Nat.pow_succ]
        omega
      · have e1 : (m + 1) / 4503599627370496 = m / 4503599627370496 := by omega
        have e2 : (m + 1) % 4503599627370496 = m % 4503599627370496 + 1 := by omega
        rw [e1, e2, ← Nat.add_assoc, Nat.add_mul (4503599627370496 + m % 4503599627370496) 1, Nat.one_mul]
theorem U_le {m k : Nat} : U m ≤ U k ↔ m ≤ k := FP.Core.unitsOf_le_iff
theorem U_K (K : Nat) (h : 1 ≤ K) : U (K * 4503599627370496) = 4503599627370496 * 2 ^ (K - 1) := by
  have := FP.Core.unitsOf_start (f := FP.Core.b64) h
  rw [tl64] at this
  exact this
theorem U_up (m E : Nat) (h : E * 4503599627370496 ≤ m) : ∀ k, U m + k * 2 ^ (E - 1) ≤ U (m + k) := by
  intro k
  induction k with
  | zero => rw [Nat.zero_mul, Nat.add_zero, Nat.add_zero]; exact Nat.le_refl _
  | succ k ih =>
    rw [← Nat.add_assoc, U_step]
    have e : 2 ^ (E - 1) ≤ 2 ^ ((m + k) / 4503599627370496 - 1) := Nat.pow_le_pow_right (by decide) (by omega)
    rw [Nat.succ_mul]
    omega
theorem U_dn (m E : Nat) : ∀ k, m + k ≤ (E + 1) * 4503599627370496 → U (m + k) ≤ U m + k * 2 ^ (E - 1) := by
  intro k
  induction k with
  | zero => intro _; rw [Nat.zero_mul, Nat.add_zero, Nat.add_zero]; exact Nat.le_refl _
  | succ k ih =>
    intro h
    have := ih (by omega)
    rw [← Nat.add_assoc, U_step]
    have e : 2 ^ ((m + k) / 4503599627370496 - 1) ≤ 2 ^ (E - 1) := Nat.pow_le_pow_right (by decide) (by omega)
    rw [Nat.succ_mul]
    omega
theorem q64 : FP.Core.b64.qmin = -1074 := FP.Core.qmin_b64
/-- a number that is not negative, and finite -/
def NF (x : UInt64) : Prop := x.toNat < 9218868437227405312
theorem nf_val {x : UInt64} (h : NF x) : ∃ c q, FP.Core.val64 x = .fin false c q ∧ FP.Core.fits FP.Core.b64 (.fin false c q) ∧ FP.Core.zmag FP.Core.b64 (.fin false c q) = U x.toNat := by
  unfold NF at h
  have m : FP.Core.mag FP.Core.b64 x.toNat = x.toNat := by rw [FP.Core.mag_toNat64, Nat.mod_eq_of_lt (by omega)]
  obtain ⟨s, c, q, h1, h2, h3⟩ := FP.Core.fin_of_mag FP.Core.good_b64 (n := x.toNat) (by rw [m, FP.Core.infBits_b64]; exact h)
  have h1' : FP.Core.val64 x = .fin s c q := h1
  have sg := FP.Core.sgn_bits (a := x) (by rw [h1']; exact fun y => by cases y)
  rw [h1'] at sg
  have : s = false := by
    have e : s = decide (2 ^ 63 ≤ x.toNat) := sg
    rw [e]
    exact decide_eq_false (by omega)
  subst this
  rw [m] at h3
  exact ⟨c, q, h1', h2, h3⟩
theorem rr_pos {r : UInt64} {n B : Nat} {e : Int} (h : FP.Core.val64 r = FP.Core.roundRatio FP.Core.b64 false n B e) : r.toNat < 2 ^ 63 := by
  have nn : FP.Core.val64 r ≠ .nan := by rw [h]; exact FP.Core.roundRatio_ne_nan _ _ _ _ _
  have sg := FP.Core.sgn_bits nn
  rw [h, FP.Core.sgn_roundRatio] at sg
  have := of_decide_eq_false sg.symm
  omega
theorem rr_neg {r : UInt64} {n B : Nat} {e : Int} (h : FP.Core.val64 r = FP.Core.roundRatio FP.Core.b64 true n B e) : 2 ^ 63 ≤ r.toNat := by
  have nn : FP.Core.val64 r ≠ .nan := by rw [h]; exact FP.Core.roundRatio_ne_nan _ _ _ _ _
  have sg := FP.Core.sgn_bits nn
  rw [h, FP.Core.sgn_roundRatio] at sg
  exact of_decide_eq_true sg.symm
theorem rr_le {r : UInt64} {s : Bool} {n B m : Nat} {e e0 : Int} (h : FP.Core.val64 r = FP.Core.roundRatio FP.Core.b64 s n B e) (hB : 0 < B) (h0 : e0 ≤ -1074) (h0e : e0 ≤ e) (hm : FP.Core.inUnits n e e0 ≤ U m * 2 ^ (-1074 - e0).toNat * B) : r.toNat % 2 ^ 63 ≤ m := by
  have := FP.Core.mag_le FP.Core.good_b64 (n := r.toNat) h hB (e0 := e0) (by rw [q64]; exact h0) h0e (m := m) (by rw [q64]; exact hm)
  rw [FP.Core.mag_toNat64] at this
  exact this
theorem rr_ge {r : UInt64} {s : Bool} {n B m : Nat} {e e0 : Int} (h : FP.Core.val64 r = FP.Core.roundRatio FP.Core.b64 s n B e) (hB : 0 < B) (h0 : e0 ≤ -1074) (h0e : e0 ≤ e) (hi : m ≤ 9218868437227405312) (hm : U m * 2 ^ (-1074 - e0).toNat * B ≤ FP.Core.inUnits n e e0) : m ≤ r.toNat % 2 ^ 63 := by
  have := FP.Core.mag_ge FP.Core.good_b64 (n := r.toNat) h hB (e0 := e0) (by rw [q64]; exact h0) h0e (m := m) (by rw [FP.Core.infBits_b64]; exact hi) (by rw [q64]; exact hm)
  rw [FP.Core.mag_toNat64] at this
  exact this
theorem mul_val {x y : UInt64} (hx : NF x) (hy : NF y) : ∃ n e, FP.Core.val64 (FP.dmul x y) = FP.Core.roundRatio FP.Core.b64 false n 1 e ∧ -2148 ≤ e ∧ FP.Core.inUnits n e (-2148) = U x.toNat * U y.toNat := by
  obtain ⟨c, q, h1, h2, h3⟩ := nf_val hx
  obtain ⟨d, r, g1, g2, g3⟩ := nf_val hy
  obtain ⟨p1, p2, p3⟩ := FP.Core.product_units h2 g2
  rw [q64] at p2 p3
  refine ⟨c * d, q + r, ?_, p2, ?_⟩
  · show FP.Core.val64 (FP.Core.dmul x y) = _
    rw [FP.Core.val64_dmul, h1, g1, p1]; rfl
  · rw [← h3, ← g3]; exact p3
theorem mul_pos {x y : UInt64} (hx : NF x) (hy : NF y) : (FP.dmul x y).toNat < 2 ^ 63 := by
  obtain ⟨n, e, h1, h2, h3⟩ := mul_val hx hy
  exact rr_pos h1
theorem mul_le {x y : UInt64} (hx : NF x) (hy : NF y) (m : Nat) (h : U x.toNat * U y.toNat ≤ U m * 2 ^ 1074) : (FP.dmul x y).toNat ≤ m := by
  obtain ⟨n, e, h1, h2, h3⟩ := mul_val hx hy
  have := rr_le h1 (by decide) (e0 := -2148) (by decide) h2 (m := m) (by rw [h3, Nat.mul_one]; exact h)
  rw [Nat.mod_eq_of_lt (mul_pos hx hy)] at this
  exact this
theorem mul_ge {x y : UInt64} (hx : NF x) (hy : NF y) (m : Nat) (hi : m ≤ 9218868437227405312) (h : U m * 2 ^ 1074 ≤ U x.toNat * U y.toNat) : m ≤ (FP.dmul x y).toNat := by
  obtain ⟨n, e, h1, h2, h3⟩ := mul_val hx hy
  have := rr_ge h1 (by decide) (e0 := -2148) (by decide) h2 hi (by rw [h3, Nat.mul_one]; exact h)
  rw [Nat.mod_eq_of_lt (mul_pos hx hy)] at this
  exact this
theorem div_val {x y : UInt64} (hx : NF x) (hy : NF y) (y0 : 0 < y.toNat) : ∃ n d e r, 0 < d ∧ FP.Core.val64 (FP.ddiv x y) = FP.Core.roundRatio FP.Core.b64 false n d e ∧ -2148 - r ≤ e ∧ -1074 ≤ r ∧ FP.Core.inUnits n e (-2148 - r) = U x.toNat * 2 ^ 1074 ∧ 2 ^ (-1074 - (-2148 - r)).toNat * d = U y.toNat := by
  obtain ⟨c, q, h1, h2, h3⟩ := nf_val hx
  obtain ⟨d, r, g1, g2, g3⟩ := nf_val hy
  have x2 := h2.2.1
  have y2 := g2.2.1
  rw [q64] at x2 y2
  have g3' : d * 2 ^ (r - -1074).toNat = U y.toNat := by rw [← g3]; unfold FP.Core.zmag FP.Core.inUnits; rw [q64]
  have h3' : c * 2 ^ (q - -1074).toNat = U x.toNat := by rw [← h3]; unfold FP.Core.zmag FP.Core.inUnits; rw [q64]
  have hd0 : d ≠ 0 := by
    rintro rfl
    rw [Nat.zero_mul] at g3'
    have := FP.Core.unitsOf_eq_zero.mp g3'.symm
    omega
  refine ⟨c, d, q - r, r, by omega, ?_, by omega, y2, ?_, ?_⟩
  · show FP.Core.val64 (FP.Core.ddiv x y) = _
    rw [FP.Core.val64_ddiv, h1, g1]
    show (if d = 0 then (if c = 0 then FP.Core.Datum.nan else FP.Core.Datum.inf (false != false)) else FP.Core.roundRatio FP.Core.b64 (false != false) c d (q - r)) = _
    exact (if_neg hd0).trans rfl
  · rw [← h3']
    unfold FP.Core.inUnits
    rw [Nat.mul_assoc, ← Nat.pow_add]
    congr 2; omega
  · rw [← g3', Nat.mul_comm]
    congr 2; omega
theorem div_pos {x y : UInt64} (hx : NF x) (hy : NF y) (y0 : 0 < y.toNat) : (FP.ddiv x y).toNat < 2 ^ 63 := by
  obtain ⟨n, d, e, r, h0, h1, h2, h3, h4, h5⟩ := div_val hx hy y0
  exact rr_pos h1
theorem div_le {x y : UInt64} (hx : NF x) (hy : NF y) (y0 : 0 < y.toNat) (m : Nat) (h : U x.toNat * 2 ^ 1074 ≤ U m * U y.toNat) : (FP.ddiv x y).toNat ≤ m := by
  obtain ⟨n, d, e, r, h0, h1, h2, h3, h4, h5⟩ := div_val hx hy y0
  have := rr_le h1 h0 (e0 := -2148 - r) (by omega) h2 (m := m) (by rw [h4, Nat.mul_assoc, h5]; exact h)
  rw [Nat.mod_eq_of_lt (div_pos hx hy y0)] at this
  exact this
theorem div_ge {x y : UInt64} (hx : NF x) (hy : NF y) (y0 : 0 < y.toNat) (m : Nat) (hi : m ≤ 9218868437227405312) (h : U m * U y.toNat ≤ U x.toNat * 2 ^ 1074) : m ≤ (FP.ddiv x y).toNat := by
  obtain ⟨n, d, e, r, h0, h1, h2, h3, h4, h5⟩ := div_val hx hy y0
  have := rr_ge h1 h0 (e0 := -2148 - r) (by omega) h2 hi (by rw [h4, Nat.mul_assoc, h5]; exact h)
  rw [Nat.mod_eq_of_lt (div_pos hx hy y0)] at this
  exact this
theorem sub_val {x y : UInt64} (hx : NF x) (hy : NF y) : ∃ sg n e, FP.Core.val64 (FP.dsub x y) = FP.Core.roundRatio FP.Core.b64 sg n 1 e ∧ -1074 ≤ e ∧ (sg = true ↔ U x.toNat < U y.toNat) ∧ FP.Core.inUnits n e (-1074) = (U x.toNat - U y.toNat) + (U y.toNat - U x.toNat) := by
  obtain ⟨c, q, h1, h2, h3⟩ := nf_val hx
  obtain ⟨d, r, g1, g2, g3⟩ := nf_val hy
  have x2 := h2.2.1
  have y2 := g2.2.1
  rw [q64] at x2 y2
  obtain ⟨V, hV⟩ : ∃ V, V = FP.Core.sumUnits false c q true d r (min q r) := ⟨_, rfl⟩
  have eV : V * ((2 ^ (min q r - -1074).toNat : Nat) : Int) = (U x.toNat : Int) - U y.toNat := by
    have a1 : U x.toNat = FP.Core.inUnits (FP.Core.inUnits c q (min q r)) (min q r) (-1074) := by
      rw [← h3]
      show FP.Core.inUnits c q FP.Core.b64.qmin = _
      rw [q64]
      exact FP.Core.inUnits_move c (q := q) (e := -1074) (r := min q r) (by omega) (by omega)
    have a2 : U y.toNat = FP.Core.inUnits (FP.Core.inUnits d r (min q r)) (min q r) (-1074) := by
      rw [← g3]
      show FP.Core.inUnits d r FP.Core.b64.qmin = _
      rw [q64]
      exact FP.Core.inUnits_move d (q := r) (e := -1074) (r := min q r) (by omega) (by omega)
    rw [a1, a2, hV]
    unfold FP.Core.sumUnits FP.Core.signed
    simp only [Bool.false_eq_true, if_false, if_true]
    show (((FP.Core.inUnits c q (min q r) : Nat) : Int) + -((FP.Core.inUnits d r (min q r) : Nat) : Int)) * _ = ((FP.Core.inUnits c q (min q r) * 2 ^ (min q r - -1074).toNat : Nat) : Int) - ((FP.Core.inUnits d r (min q r) * 2 ^ (min q r - -1074).toNat : Nat) : Int)
    rw [Int.natCast_mul, Int.natCast_mul, Int.add_mul, Int.neg_mul]; rfl
  have p2 : (0 : Int) < ((2 ^ (min q r - -1074).toNat : Nat) : Int) := by
    have := Nat.two_pow_pos (min q r - -1074).toNat
    omega
  refine ⟨FP.Core.sumSign false true V, V.natAbs, min q r, ?_, by omega, ?_, ?_⟩
  · show FP.Core.val64 (FP.Core.dsub x y) = _
    rw [FP.Core.val64_dsub, h1, g1, hV]; rfl
  · unfold FP.Core.sumSign
    by_cases v0 : V = 0
    · rw [if_pos v0]
      rw [v0, Int.zero_mul] at eV
      refine ⟨fun z => ?_, fun z => ?_⟩
      · cases z
      · omega
    · rw [if_neg v0]
      by_cases vn : V < 0
      · have : V * ((2 ^ (min q r - -1074).toNat : Nat) : Int) < 0 := Int.mul_neg_of_neg_of_pos vn p2
        exact ⟨fun _ => by omega, fun _ => decide_eq_true vn⟩
      · have : 0 < V * ((2 ^ (min q r - -1074).toNat : Nat) : Int) := Int.mul_pos (by omega) p2
        exact ⟨fun z => absurd (of_decide_eq_true z) vn, fun z => by omega⟩
  · have e := congrArg Int.natAbs eV
    rw [Int.natAbs_mul, Int.natAbs_natCast] at e
    unfold FP.Core.inUnits
    rw [e]
    omega
theorem sub_pos {x y : UInt64} (hx : NF x) (hy : NF y) (h : y.toNat ≤ x.toNat) : (FP.dsub x y).toNat < 2 ^ 63 := by
  obtain ⟨sg, n, e, h1, h2, h3, h4⟩ := sub_val hx hy
  have : sg = false := by
    cases sg with
    | false => rfl
    | true =>
      have := h3.mp rfl
      have := U_le.mpr h
      omega
  subst this
  exact rr_pos h1
theorem sub_neg {x y : UInt64} (hx : NF x) (hy : NF y) (h : x.toNat < y.toNat) : 2 ^ 63 < (FP.dsub x y).toNat := by
  obtain ⟨sg, n, e, h1, h2, h3, h4⟩ := sub_val hx hy
  have ul : U x.toNat < U y.toNat := FP.Core.unitsOf_lt h
  have : sg = true := h3.mpr ul
  subst this
  have a := rr_neg h1
  have b := rr_ge h1 (by decide) (e0 := -1074) (by decide) h2 (m := 1) (by decide) (by
    rw [h4]
    have : U 1 = 1 := by decide
    rw [this]
    show 1 * 2 ^ 0 * 1 ≤ _
    omega)
  have c := UInt64.toNat_lt (FP.dsub x y)
  omega
theorem sub_mag {x y : UInt64} (hx : NF x) (hy : NF y) (m : Nat) (h1 : x.toNat ≤ m) (h2 : y.toNat ≤ m) : (FP.dsub x y).toNat % 2 ^ 63 ≤ m := by
  obtain ⟨sg, n, e, h3, h4, h5, h6⟩ := sub_val hx hy
  refine rr_le h3 (by decide) (e0 := -1074) (by decide) h4 ?_
  rw [h6]
  have a := U_le.mpr h1
  have b := U_le.mpr h2
  show _ ≤ U m * 2 ^ 0 * 1
  omega
theorem sub_le {x y : UInt64} (hx : NF x) (hy : NF y) (h : y.toNat ≤ x.toNat) : (FP.dsub x y).toNat ≤ x.toNat := by
  have := sub_mag hx hy x.toNat (Nat.le_refl _) h
  rw [Nat.mod_eq_of_lt (sub_pos hx hy h)] at this
  exact this
theorem sub_ub {x y : UInt64} (hx : NF x) (hy : NF y) (h : y.toNat ≤ x.toNat) (m : Nat) (hm : U x.toNat ≤ U m + U y.toNat) : (FP.dsub x y).toNat ≤ m := by
  obtain ⟨sg, n, e, h3, h4, h5, h6⟩ := sub_val hx hy
  have := rr_le h3 (by decide) (e0 := -1074) (by decide) h4 (m := m) (by
    rw [h6]
    have a := U_le.mpr h
    show _ ≤ U m * 2 ^ 0 * 1
    omega)
  rw [Nat.mod_eq_of_lt (sub_pos hx hy h)] at this
  exact this
theorem sub_ge {x y : UInt64} (hx : NF x) (hy : NF y) (h : y.toNat ≤ x.toNat) (m : Nat) (hi : m ≤ 9218868437227405312) (hm : U m + U y.toNat ≤ U x.toNat) : m ≤ (FP.dsub x y).toNat := by
  obtain ⟨sg, n, e, h3, h4, h5, h6⟩ := sub_val hx hy
  have := rr_ge h3 (by decide) (e0 := -1074) (by decide) h4 hi (by
    rw [h6]
    show U m * 2 ^ 0 * 1 ≤ _
    omega)
  rw [Nat.mod_eq_of_lt (sub_pos hx hy h)] at this
  exact this
theorem vf_of {r : UInt64} (h : r.toNat % 2 ^ 63 ≤ 9218868437227405312) : vf_n64 r := by
  unfold vf_n64
  show (r &&& 0x7fffffffffffffff).toNat ≤ (0x7ff0000000000000 : UInt64).toNat
  rw [FP.Core.mask_toNat]
  exact h
theorem vf_nf {r : UInt64} (h : NF r) : vf_n64 r := by
  unfold NF at h
  exact vf_of (by rw [Nat.mod_eq_of_lt (by omega)]; omega)
theorem i2d_nf (n : Nat) (h : n < 2 ^ 31) : (FP.i2d (nI n)).toNat < 1056 * 4503599627370496 := by
  have m := FP.Core.i2d_mag (nI n)
  have e : FP.Core.val64 (FP.Core.i2d (nI n)) = FP.Core.roundRatio FP.Core.b64 (decide ((nI n).toInt < 0)) (nI n).toInt.natAbs 1 0 := FP.Core.val64_i2d (nI n)
  rw [nI_toInt h] at e
  rw [decide_eq_false (by omega)] at e
  have p := rr_pos e
  rw [Nat.mod_eq_of_lt p] at m
  exact m
theorem i2d_ge (n : Nat) (h0 : 1 ≤ n) (h : n < 2 ^ 31) : 1023 * 4503599627370496 ≤ (FP.i2d (nI n)).toNat := by
  have m := (FP.Core.i2d_big (v := nI n) (by rw [nI_toInt h]; omega)).1
  have b := i2d_nf n h
  rw [Nat.mod_eq_of_lt (Nat.lt_of_lt_of_le b (by decide))] at m
  exact m
/-- products and quotients by powers of two -/
theorem mulK {x y : UInt64} (a b : Nat) (hx : x.toNat ≤ a * 4503599627370496) (hy : y.toNat ≤ b * 4503599627370496) (ha : 1 ≤ a ∧ a ≤ 2046) (hb : 1 ≤ b ∧ b ≤ 2046) (hab : 1023 ≤ a + b - 1 ∧ 1024 ≤ a + b) : (FP.dmul x y).toNat ≤ (a + b - 1023) * 4503599627370496 := by
  refine mul_le (by unfold NF; omega) (by unfold NF; omega) _ ?_
  have u1 := U_le.mpr hx
  have u2 := U_le.mpr hy
  rw [U_K a ha.1] at u1
  rw [U_K b hb.1] at u2
  rw [U_K _ (by omega)]
  refine Nat.le_trans (Nat.mul_le_mul u1 u2) (Nat.le_of_eq ?_)
  have e1 : (4503599627370496 : Nat) = 2 ^ 52 := by decide
  rw [e1, ← Nat.pow_add, ← Nat.pow_add, ← Nat.pow_add, ← Nat.pow_add, ← Nat.pow_add]
  refine congrArg (fun x : Nat => 2 ^ x) ?_
  omega
theorem mulKg {x y : UInt64} (a b : Nat) (fx : NF x) (fy : NF y) (hx : a * 4503599627370496 ≤ x.toNat) (hy : b * 4503599627370496 ≤ y.toNat) (ha : 1 ≤ a) (hb : 1 ≤ b) (hab : 1024 ≤ a + b) (hc : a + b ≤ 3070) : (a + b - 1023) * 4503599627370496 ≤ (FP.dmul x y).toNat := by
  refine mul_ge fx fy ((a + b - 1023) * 4503599627370496) (Nat.le_trans (Nat.mul_le_mul_right _ (show a + b - 1023 ≤ 2047 by omega)) (Nat.le_of_ble_eq_true rfl)) ?_
  have u1 := U_le.mpr hx
  have u2 := U_le.mpr hy
  rw [U_K a ha] at u1
  rw [U_K b hb] at u2
  rw [U_K _ (by omega)]
  refine Nat.le_trans (Nat.le_of_eq ?_) (Nat.mul_le_mul u1 u2)
  have e1 : (4503599627370496 : Nat) = 2 ^ 52 := by decide
  rw [e1, ← Nat.pow_add, ← Nat.pow_add, ← Nat.pow_add, ← Nat.pow_add, ← Nat.pow_add]
  refine congrArg (fun x : Nat => 2 ^ x) ?_
  omega
theorem divK {x y : UInt64} (a b : Nat) (fy : NF y) (hx : x.toNat ≤ a * 4503599627370496) (hy : b * 4503599627370496 ≤ y.toNat) (ha : 1 ≤ a ∧ a ≤ 2046) (hb : 1 ≤ b ∧ b ≤ 2046) (hab : b < a + 1023) : (FP.ddiv x y).toNat ≤ (a + 1023 - b) * 4503599627370496 := by
  refine div_le (by unfold NF; omega) fy (by omega) _ ?_
  have u1 := U_le.mpr hx
  have u2 := U_le.mpr hy
  rw [U_K a ha.1] at u1
  rw [U_K b hb.1] at u2
  rw [U_K _ (by omega)]
  refine Nat.le_trans (Nat.mul_le_mul_right _ u1) (Nat.le_trans (Nat.le_of_eq ?_) (Nat.mul_le_mul_left _ u2))
  have e1 : (4503599627370496 : Nat) = 2 ^ 52 := by decide
  rw [e1, ← Nat.pow_add, ← Nat.pow_add, ← Nat.pow_add, ← Nat.pow_add, ← Nat.pow_add]
  refine congrArg (fun x : Nat => 2 ^ x) ?_
  omega
theorem divKg {x y : UInt64} (a b : Nat) (fx : NF x) (hx : a * 4503599627370496 ≤ x.toNat) (hy : y.toNat ≤ b * 4503599627370496) (y0 : 0 < y.toNat) (ha : 1 ≤ a ∧ a ≤ 2046) (hb : 1 ≤ b ∧ b ≤ 2046) (hab : b < a + 1023) (hc : a + 1023 - b ≤ 2047) : (a + 1023 - b) * 4503599627370496 ≤ (FP.ddiv x y).toNat := by
  refine div_ge fx (by unfold NF; omega) y0 ((a + 1023 - b) * 4503599627370496) (Nat.le_trans (Nat.mul_le_mul_right _ hc) (Nat.le_of_ble_eq_true rfl)) ?_
  have u1 := U_le.mpr hx
  have u2 := U_le.mpr hy
  rw [U_K a ha.1] at u1
  rw [U_K b hb.1] at u2
  rw [U_K _ (by omega)]
  refine Nat.le_trans (Nat.mul_le_mul_left _ u2) (Nat.le_trans (Nat.le_of_eq ?_) (Nat.mul_le_mul_right _ u1))
  have e1 : (4503599627370496 : Nat) = 2 ^ 52 := by decide
  rw [e1, ← Nat.pow_add, ← Nat.pow_add, ← Nat.pow_add, ← Nat.pow_add, ← Nat.pow_add]
  refine congrArg (fun x : Nat => 2 ^ x) ?_
  omega

