/-! THE PURE PART, 40: the law -/
variable {M M' A : Mem} {b b' : Nat}
theorem dd_ok {z : UInt64} {B : Prop} (h : B) : ((Op.cmpValue (FP.dcmp z z) CmpOp.l) = 0 → B) ∧ (¬ (Op.cmpValue (FP.dcmp z z) CmpOp.l) = 0 → (((Op.cmpValue (FP.dcmp z z) CmpOp.l) = 0 → False) ∧ (¬ (Op.cmpValue (FP.dcmp z z) CmpOp.l) = 0 → ((¬ (Op.cmpValue (FP.dcmp z z) CmpOp.l) = 0 → B) ∧ ((Op.cmpValue (FP.dcmp z z) CmpOp.l) = 0 → False))))) := by
  by_cases e : (Op.cmpValue (FP.dcmp z z) CmpOp.l) = 0
  · exact cT e h
  · exact cF e (cF e (cN e h))
theorem law_L (xs : Nat → Int32) (L : Nat) (hL : L ≤ 2048) : ∀ (f i : Nat) (M : Mem), i ≤ 512 → 512 - i < f → INV M (40 * i) → w_L_law_L18 xs L f M 1 449 (nI (4 * i)) := by
  intro f
  induction f with
  | zero => intro i M _ h; omega
  | succ f ih =>
    intro i M hi hf V
    refine ⟨fun _ => trivial, fun hlt => ?_⟩
    have hL4 : 4 * i + 4 ≤ L := by
      have e : (nI L - (4 : Int32)).toInt = (L : Int) - 4 := pk_sub_toInt (b := 4) (by omega) (by decide)
      rw [Int32.lt_iff_toInt_lt, e, nI_toInt (by omega)] at hlt
      omega
    have hb : 40 * i + 40 ≤ 20480 := by omega
    have v0 : vp_in (nI (4 * i)) L := vp_in_nI (by omega) (by omega)
    have v1 : vp_in (nI (4 * i) + (1 : Int32)) L := by rw [nI_1]; exact vp_in_nI (by omega) (by omega)
    have v2 : vp_in (nI (4 * i) + (2 : Int32)) L := by rw [show nI (4 * i) + (2 : Int32) = nI (4 * i + 2) from nI_add _ 2]; exact vp_in_nI (by omega) (by omega)
    have v3 : vp_in (nI (4 * i) + (3 : Int32)) L := by rw [show nI (4 * i) + (3 : Int32) = nI (4 * i + 3) from nI_add _ 3]; exact vp_in_nI (by omega) (by omega)
    have nx : ∀ M2 : Mem, INV M2 (40 * i + 40) → ∀ x, x = nI (4 * i) + (4 : Int32) → w_L_law_L18 xs L f M2 1 449 x := by
      intro M2 V2 x hx
      rw [hx, show nI (4 * i) + (4 : Int32) = nI (4 * (i + 1)) from nI_add _ 4]
      exact ih (i + 1) M2 (by omega) (by omega) V2
    have n0 : ∀ M2 : Mem, INV M2 (40 * i) → ∀ x, x = nI (4 * i) + (4 : Int32) → w_L_law_L18 xs L f M2 1 449 x := fun M2 V2 => nx M2 (V2.mono (by omega))
    refine ⟨v0, m_eq (m_eq ?_)⟩
    obtain ⟨o, ho⟩ : ∃ o, o = xs (Int32.toNatClampNeg (nI (4 * i))) &&& (31 : Int32) := ⟨_, rfl⟩
    rw [← ho]
    by_cases e0 : o = 0
    · exact cT e0 ⟨v1, m_eq ⟨k1, y_build V _ (fun v M1 an => ⟨v1, m_eq ⟨k449, an _ (fun M2 V2 => cT rfl (n0 M2 V2))⟩⟩)⟩⟩
    refine cF e0 ?_
    by_cases e1 : o = 1
    · exact cT e1 ⟨v1, m_eq ⟨v2, m_eq ⟨v3, m_eq ⟨k1, y_setPressure V _ _ (fun v M1 an => ⟨v1, m_eq ⟨v2, m_eq ⟨v3, m_eq ⟨k449, an _ (fun M2 V2 => cT rfl (n0 M2 V2))⟩⟩⟩⟩)⟩⟩⟩⟩
    refine cF e1 ?_
    by_cases e2 : o = 2
    · exact cT e2 ⟨v1, m_eq ⟨k1, y_setInterval V _ (fun v M1 an => ⟨v1, m_eq ⟨k449, an _ (fun M2 V2 => cT rfl (n0 M2 V2))⟩⟩)⟩⟩
    refine cF e2 ?_
    by_cases e3 : o = 3
    · exact cT e3 ⟨v1, m_eq ⟨v2, m_eq ⟨v3, m_eq ⟨k1, y_equip V _ _ _ (fun v M1 an => ⟨v1, m_eq ⟨v2, m_eq ⟨v3, m_eq ⟨k449, an _ (fun M2 V2 => cT rfl (n0 M2 V2))⟩⟩⟩⟩)⟩⟩⟩⟩
    refine cF e3 ?_
    by_cases e4 : o = 4
    · exact cT e4 ⟨v1, m_eq ⟨v2, m_eq ⟨k1, y_calibrate V (by omega) _ _ (fun v M1 an => ⟨v1, m_eq ⟨v2, m_eq ⟨k449, an _ (fun M2 V2 => cT rfl (n0 M2 V2))⟩⟩⟩)⟩⟩⟩
    refine cF e4 ?_
    by_cases e5 : o = 5
    · refine cT e5 ⟨v1, m_eq ?_⟩
      by_cases z : xs (Int32.toNatClampNeg (nI (4 * i) + (1 : Int32))) = 0
      · exact cT z ⟨v2, m_eq ⟨v3, m_eq ⟨k1, y_add V _ _ _ (Or.inl rfl) (fun v M1 an => ⟨v1, m_eq (cT z ⟨v2, m_eq ⟨v3, m_eq ⟨k449, an _ (fun M2 V2 => cT rfl (n0 M2 V2))⟩⟩⟩)⟩)⟩⟩⟩
      · exact cF z ⟨v2, m_eq ⟨v3, m_eq ⟨k1, y_add V _ _ _ (Or.inr rfl) (fun v M1 an => ⟨v1, m_eq (cF z ⟨v2, m_eq ⟨v3, m_eq ⟨k449, an _ (fun M2 V2 => cT rfl (n0 M2 V2))⟩⟩⟩)⟩)⟩⟩⟩
    refine cF e5 ?_
    by_cases e6 : o = 6
    · exact cT e6 ⟨v1, m_eq ⟨k1, y_run V hb _ (fun v M1 an => ⟨v1, m_eq ⟨k449, an _ (fun M2 V2 => cT rfl (nx M2 V2))⟩⟩)⟩⟩
    refine cF e6 ?_
    by_cases e7 : o = 7
    · exact cT e7 ⟨v1, m_eq ⟨k1, y_type V _ (fun v M1 an => ⟨v1, m_eq ⟨k449, an _ (fun M2 V2 => cT rfl (n0 M2 V2))⟩⟩)⟩⟩
    refine cF e7 ?_
    by_cases e8 : o = 8
    · exact cT e8 ⟨k1, y_clearText V (fun v M1 an => ⟨k449, an _ (fun M2 V2 => cT rfl (n0 M2 V2))⟩)⟩
    refine cF e8 ?_
    by_cases e9 : o = 9
    · exact cT e9 ⟨k1, y_readParts V (fun v M1 an => ⟨k449, an _ (fun M2 V2 => cT rfl (n0 M2 V2))⟩)⟩
    refine cF e9 ?_
    by_cases e10 : o = 10
    · exact cT e10 ⟨k1, y_perform V hb (fun v M1 an => ⟨k449, an _ (fun M2 V2 => cT rfl (nx M2 V2))⟩)⟩
    refine cF e10 ?_
    by_cases e11 : o = 11
    · exact cT e11 ⟨k1, y_undo V (fun v M1 an => ⟨k449, an _ (fun M2 V2 => cT rfl (n0 M2 V2))⟩)⟩
    refine cF e11 ?_
    by_cases e12 : o = 12
    · exact cT e12 ⟨k1, y_keep V (fun v M1 an => ⟨k449, an _ (fun M2 V2 => cT rfl (n0 M2 V2))⟩)⟩
    refine cF e12 ?_
    by_cases e13 : o = 13
    · exact cT e13 ⟨k1, y_restore V (fun v M1 an => ⟨k449, an _ (fun M2 V2 => cT rfl (n0 M2 V2))⟩)⟩
    refine cF e13 ?_
    by_cases e14 : o = 14
    · exact cT e14 ⟨v1, m_eq ⟨v2, m_eq ⟨k1, y_head V (by omega) _ _ (fun v M1 an => ⟨v1, m_eq ⟨v2, m_eq ⟨k449, an _ (fun M2 V2 => cT rfl (n0 M2 V2))⟩⟩⟩)⟩⟩⟩
    refine cF e14 ?_
    by_cases e15 : o = 15
    · exact cT e15 ⟨v1, m_eq ⟨v2, m_eq ⟨k1, y_gauge V _ _ (fun v M1 an => ⟨v1, m_eq ⟨v2, m_eq ⟨k449, an _ (fun M2 V2 => dd_ok (n0 M2 V2))⟩⟩⟩)⟩⟩⟩
    refine cF e15 ?_
    by_cases e16 : o = 16
    · exact cT e16 ⟨v1, m_eq ⟨k1, y_display V _ (fun v M1 an => ⟨v1, m_eq ⟨k449, an _ (fun M2 V2 => cT rfl (n0 M2 V2))⟩⟩)⟩⟩
    refine cF e16 ?_
    by_cases e17 : o = 17
    · exact cT e17 ⟨v1, m_eq ⟨v2, m_eq ⟨k1, y_part V (by omega) _ _ (fun v M1 an => ⟨v1, m_eq ⟨v2, m_eq ⟨k449, an _ (fun M2 V2 => cT rfl (n0 M2 V2))⟩⟩⟩)⟩⟩⟩
    refine cF e17 ?_
    by_cases e18 : o = 18
    · exact cT e18 ⟨v1, m_eq ⟨v2, m_eq ⟨k1, y_fits V _ _ (fun v M1 an => ⟨v1, m_eq ⟨v2, m_eq ⟨k449, an _ (fun M2 V2 => cT rfl (n0 M2 V2))⟩⟩⟩)⟩⟩⟩
    refine cF e18 ?_
    by_cases e19 : o = 19
    · exact cT e19 ⟨v1, m_eq ⟨k1, y_value V (by omega) _ (fun v M1 an => ⟨v1, m_eq ⟨k449, an _ (fun M2 V2 => dd_ok (n0 M2 V2))⟩⟩)⟩⟩
    refine cF e19 ?_
    by_cases e20 : o = 20
    · exact cT e20 ⟨v1, m_eq ⟨v2, m_eq ⟨k1, y_foretold V _ _ (fun v M1 an => ⟨v1, m_eq ⟨v2, m_eq ⟨k449, an _ (fun M2 V2 => dd_ok (n0 M2 V2))⟩⟩⟩)⟩⟩⟩
    refine cF e20 ?_
    by_cases e21 : o = 21
    · exact cT e21 ⟨v1, m_eq ⟨k1, y_pressureBits V _ (fun v M1 an => ⟨v1, m_eq ⟨k449, an _ (fun M2 V2 => cT ((lg_cmp_eq _ _).mpr rfl) (n0 M2 V2))⟩⟩)⟩⟩
    refine cF e21 ?_
    by_cases e22 : o = 22
    · exact cT e22 ⟨v1, m_eq ⟨v2, m_eq ⟨k1, y_trace V _ _ (fun v M1 an => ⟨v1, m_eq ⟨v2, m_eq ⟨k449, an _ (fun M2 V2 => dd_ok (n0 M2 V2))⟩⟩⟩)⟩⟩⟩
    refine cF e22 ?_
    by_cases e23 : o = 23
    · exact cT e23 ⟨v1, m_eq ⟨k1, y_count V (by omega) _ (fun v M1 an => ⟨v1, m_eq ⟨k449, an _ (fun M2 V2 => cT rfl (n0 M2 V2))⟩⟩)⟩⟩
    refine cF e23 ?_
    exact n0 M V
theorem law_k : Al room_1 0 0 ∧ ((0 + 1) - 0 + rmX5_init.cells ≤ room_1.cells ∧ SL (0 + 1) - SL 0 + rmX5_init.slots ≤ room_1.slots) ∧ ((0 + 1) - 0 + rmX5_init.cells ≤ 0 + 1 + 447 - 0 ∧ SL (0 + 1) - SL 0 + rmX5_init.slots ≤ SL (0 + 1 + 447) - SL 0) ∧ (kd (0 + 1 + 447 + 1) = (6, 0) ∧ Al room_1 0 (0 + 1 + 447)) ∧ ((0 + 1 + 447 + 1) - 0 + rmX6_init.cells ≤ room_1.cells ∧ SL (0 + 1 + 447 + 1) - SL 0 + rmX6_init.slots ≤ room_1.slots) ∧ ((0 + 1 + 447 + 1) - 0 + rmX6_init.cells ≤ 0 + 1 + 447 + 1 + 8 - 0 ∧ SL (0 + 1 + 447 + 1) - SL 0 + rmX6_init.slots ≤ SL (0 + 1 + 447 + 1 + 8) - SL 0) := by
  unfold Al
  decide +kernel
theorem law_ok (xs : Nat → Int32) (L : Nat) (hL : L ≤ 2048) : w_law xs L Mz := by
  obtain ⟨a1, a2, a3, a4, a5, a6⟩ := law_k
  refine ⟨⟨by decide, a1⟩, m_eq (m_eq ⟨a2, a3, Nat.succ_ne_zero _, ?_⟩)⟩
  refine i_X5 (A := zr Mz 1) (fun M' I => ⟨a4, m_eq (m_eq ⟨a5, a6, Nat.succ_ne_zero _, ?_⟩)⟩)
  refine i_X6 449 rfl (zr M' 449) (fun M3 q => ?_)
  exact law_L xs L hL 4000 0 M3 (by decide) (by decide) (inv0 I q)
