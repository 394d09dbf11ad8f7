/-! THE PURE PART, 26: what is told: counts, bits, traces -/
variable {M M' A : Mem} {b b' c h k tl : Nat} {s s' z : S3} {Hs : Nat → S3} {f : Bool} {q tx : Nat → Nat} {N N' P : Nat → Nat} {D D' : Nat → UInt64}
/-- numbers and bits: the float's own bits, a double out of its bits -/
theorem bits_ok {p : UInt64} (hp : PZ p) {K : Int32 → Mem → Prop} (H : K (UInt32.toInt32 (FP.d2f p)) M) : vf_n32 (FP.d2f p) ∧ w_X5_bitsOf 457 M (FP.d2f p) K := bits_okx hp H
theorem fnan_ok {p : UInt64} (hp : PZ p) : Op.cmpValue (FP.fcmp (FP.d2f p) (FP.d2f p)) CmpOp.l = 0 := fnan_okx hp
theorem dself_ok {v : UInt64} (hv : v.toNat ≤ 4696837146684686336) : Op.cmpValue (FP.dcmp v v) CmpOp.l = 0 := dself_okx hv
theorem k447 : 447 ≤ 457 ∧ kd 447 = (4, 0) := by decide
theorem cK_cnt (f : Nat → Int32) (g : Nat → Nat) (s n : Nat) : ∀ m, n ≤ m → (∀ i, i < n → (f i = nI s ↔ g i = s)) → (∀ i, n ≤ i → i < m → f i ≠ nI s) → cK f (nI s) m = cnt g s n := by
  have h0 : ∀ m, m ≤ n → (∀ i, i < n → (f i = nI s ↔ g i = s)) → cK f (nI s) m = cnt g s m := by
    intro m
    induction m with
    | zero => intro _ _; rfl
    | succ m ih =>
      intro hm h
      unfold cK cnt
      rw [ih (by omega) h]
      by_cases e : g m = s
      · rw [if_pos ((h m (by omega)).mpr e), if_pos e]
      · rw [if_neg (fun y => e ((h m (by omega)).mp y)), if_neg e]
  intro m
  induction m with
  | zero =>
    intro hm h _
    obtain rfl : n = 0 := by omega
    rfl
  | succ m ih =>
    intro hm h h2
    by_cases e : n = m + 1
    · rw [e]; exact h0 (m + 1) (by omega) h
    · have := ih (by omega) h (fun i a b => h2 i a (by omega))
      unfold cK
      rw [this, if_neg (h2 m (by omega) (by omega))]
      rfl
theorem cp_eq {x e : Nat} (he : 1 ≤ e) (h5 : e < 2 ^ 31) (hx : x < 2 ^ 31) : cp x = nI e ↔ x = e := by
  unfold cp
  by_cases z : x = 0
  · rw [if_pos z]
    exact ⟨fun y => absurd y.symm (nI_ne5 h5), fun y => by omega⟩
  · rw [if_neg z]; exact nI_eq hx h5
theorem sumK_sm (f : Nat → Int32) (g : Nat → Nat) : ∀ n, (∀ i, i < n → f i = nI (g i)) → sumK f n = nI (sm g n) := by
  intro n
  induction n with
  | zero => intro _; rfl
  | succ n ih =>
    intro h
    unfold sumK sm
    rw [ih (fun i hi => h i (by omega)), h n (by omega), nI_add]
theorem y_count {K : Int32 → Mem → Prop} (V : INV M b) (hb : b ≤ 20480) (x : Int32) (H : ∀ v M1, An (w_X6_count 457 M1 449 x) v b → K v M1) : w_X5_count 457 M 1 x K := by
  obtain ⟨s, Hs, k, z, f, q, tl, tx, I, R⟩ := id V
  have cr0 := I.2.2.2.1.1
  have w0 := I.2.2.2.1.2
  have c2 := kc0 car2
  have g60 := w0.n.2
  obtain ⟨s1, s2, s3, s4, s5⟩ := cr0.2.1
  obtain ⟨d0, d1, d2, d3, d4⟩ := w0.2.2.2.2.2.2.2.2
  have hst : ∀ p, p < s.1 2 → s.1 (92 + 8 * p + 3) < 2 ^ 30 := fun p hp => by have := (w0.2.2.2.2.2.2.1 p hp).2.2.2.2.1; omega
  have cs : ∀ e, e < 4 → cK (fun p => gI M (2 + 14 + p) 4) (nI e) 60 = cS s.1 e (s.1 2) := by
    intro e he
    rw [cS_cnt]
    refine cK_cnt _ _ e (s.1 2) 60 g60 (fun p hp => ?_) (fun p h1 h2 => ?_)
    · rw [(cr0.2.2.2.2.2.1 p hp).2.2.2.1]
      exact nI_eq (by have := hst p hp; omega) (by omega)
    · rw [(cr0.2.2.2.2.2.2 p h1 h2).1]
      exact fun y => nI_pos (n := e) (by omega) (by rw [← y]; decide)
  have cc : ∀ e, 1 ≤ e → e ≤ 5 → cK (fun p => gI M (2 + 14 + p) 10) (nI e) 60 = s.1 (5 + e) := by
    intro e h1 h5
    rw [← d2 e h1 h5]
    refine cK_cnt _ _ e (s.1 2) 60 g60 (fun p hp => ?_) (fun p h1 h2 => ?_)
    · have w8 := (w0.2.2.2.2.2.2.1 p hp).2.2.2.2.2.2.2.2.1
      rw [(cr0.2.2.2.2.2.1 p hp).2.2.2.2.2.2.2.2.1]
      exact cp_eq h1 (by omega) (by omega)
    · rw [(cr0.2.2.2.2.2.2 p h1 h2).2.1]
      exact fun y => nI_ne5 (p := e) (by omega) y.symm
  have ct : sumK (fun h => gI M (2 + 5 + h) 10) 8 = nI (s.1 4) := by
    rw [← d3]
    exact sumK_sm _ _ 8 (fun h hh => (cr0.2.2.2.1 h hh).2.2.2.2.1)
  have ca : sumK (fun h => gI M (2 + 5 + h) 13) 8 = nI (s.1 5) := by
    rw [← d4]
    exact sumK_sm _ _ 8 (fun h hh => (cr0.2.2.2.1 h hh).2.2.2.2.2.2.2)
  by_cases e0 : x = 0
  · subst e0
    exact cT rfl ⟨k1, m_rR I.1.1 ⟨c2, by rw [s2]; exact H _ _ (fun K h => cT rfl ⟨k449, q_r0 R.qq (q_rI R.qq 0 rfl (by decide) (h M V))⟩)⟩⟩
  refine cF e0 ?_
  by_cases e1 : x = 1
  · subst e1
    exact cT rfl ⟨k1, m_rR I.1.1 ⟨c2, by rw [s4]; exact H _ _ (fun K h => cF (by decide) (cT rfl ⟨k449, q_r0 R.qq (q_rI R.qq 1 rfl (by decide) (h M V))⟩))⟩⟩
  refine cF e1 ?_
  by_cases e2 : x = 2
  · subst e2
    exact cT rfl ⟨k1, m_rR I.1.1 ⟨c2, by rw [s3]; exact H _ _ (fun K h => cF (by decide) (cF (by decide) (cT rfl ⟨k449, q_r0 R.qq (q_rI R.qq 2 rfl (by decide) (h M V))⟩)))⟩⟩
  refine cF e2 ?_
  by_cases e3 : x = 3
  · subst e3
    exact cT rfl ⟨k1, m_rR I.1.1 ⟨c2, c_partsIn cr0.1 (nI 0) (by rw [cs 0 (by decide)]; exact H _ _ (fun K h => cF (by decide) (cF (by decide) (cF (by decide) (cT rfl ⟨k449, q_inState R.qq 0 (by decide) g60 hst (h M V)⟩)))))⟩⟩
  refine cF e3 ?_
  by_cases e4 : x = 4
  · subst e4
    exact cT rfl ⟨k1, m_rR I.1.1 ⟨c2, c_partsIn cr0.1 (nI 1) (by rw [cs 1 (by decide)]; exact H _ _ (fun K h => cF (by decide) (cF (by decide) (cF (by decide) (cF (by decide) (cT rfl ⟨k449, q_inState R.qq 1 (by decide) g60 hst (h M V)⟩))))))⟩⟩
  refine cF e4 ?_
  by_cases e5 : x = 5
  · subst e5
    exact cT rfl ⟨k1, m_rR I.1.1 ⟨c2, c_partsIn cr0.1 (nI 2) (by rw [cs 2 (by decide)]; exact H _ _ (fun K h => cF (by decide) (cF (by decide) (cF (by decide) (cF (by decide) (cF (by decide) (cT rfl ⟨k449, q_inState R.qq 2 (by decide) g60 hst (h M V)⟩)))))))⟩⟩
  refine cF e5 ?_
  by_cases e6 : x = 6
  · subst e6
    exact cT rfl ⟨k1, m_rR I.1.1 ⟨c2, c_partsIn cr0.1 (nI 3) (by rw [cs 3 (by decide)]; exact H _ _ (fun K h => cF (by decide) (cF (by decide) (cF (by decide) (cF (by decide) (cF (by decide) (cF (by decide) (cT rfl ⟨k449, q_inState R.qq 3 (by decide) g60 hst (h M V)⟩))))))))⟩⟩
  refine cF e6 ?_
  by_cases e7 : x = 7
  · subst e7
    exact cT rfl ⟨k1, m_rR I.1.1 ⟨c2, c_testsEnded cr0.1 (by rw [ct]; exact H _ _ (fun K h => cF (by decide) (cF (by decide) (cF (by decide) (cF (by decide) (cF (by decide) (cF (by decide) (cF (by decide) (cT rfl ⟨k449, q_r0 R.qq (q_rI R.qq 4 rfl (by decide) (h M V))⟩)))))))))⟩⟩
  refine cF e7 ?_
  by_cases e8 : x = 8
  · subst e8
    exact cT rfl ⟨k1, m_rR I.1.1 ⟨c2, c_testsRepeated cr0.1 (by rw [ca]; exact H _ _ (fun K h => cF (by decide) (cF (by decide) (cF (by decide) (cF (by decide) (cF (by decide) (cF (by decide) (cF (by decide) (cF (by decide) (cT rfl ⟨k449, q_r0 R.qq (q_rI R.qq 5 rfl (by decide) (h M V))⟩))))))))))⟩⟩
  refine cF e8 ?_
  by_cases e9 : x = 9
  · subst e9
    exact cT rfl ⟨k1, m_rR I.1.1 ⟨c2, by rw [s1]; exact H _ _ (fun K h => cF (by decide) (cF (by decide) (cF (by decide) (cF (by decide) (cF (by decide) (cF (by decide) (cF (by decide) (cF (by decide) (cF (by decide) (cT rfl ⟨k449, q_r0 R.qq (q_rI R.qq 3 rfl (by decide) (h M V))⟩))))))))))⟩⟩
  refine cF e9 ?_
  by_cases e10 : x = 10
  · subst e10
    exact cT rfl ⟨k1, m_rR I.1.1 ⟨c2, c_partsRejectedFor cr0.1 (nI 1) (by rw [cc 1 (by decide) (by decide)]; exact H _ _ (fun K h => cF (by decide) (cF (by decide) (cF (by decide) (cF (by decide) (cF (by decide) (cF (by decide) (cF (by decide) (cF (by decide) (cF (by decide) (cF (by decide) (cT rfl ⟨k449, q_r0 R.qq (q_rI R.qq 6 rfl (by decide) (h M V))⟩))))))))))))⟩⟩
  refine cF e10 ?_
  by_cases e11 : x = 11
  · subst e11
    exact cT rfl ⟨k1, m_rR I.1.1 ⟨c2, c_partsRejectedFor cr0.1 (nI 2) (by rw [cc 2 (by decide) (by decide)]; exact H _ _ (fun K h => cF (by decide) (cF (by decide) (cF (by decide) (cF (by decide) (cF (by decide) (cF (by decide) (cF (by decide) (cF (by decide) (cF (by decide) (cF (by decide) (cF (by decide) (cT rfl ⟨k449, q_r0 R.qq (q_rI R.qq 7 rfl (by decide) (h M V))⟩)))))))))))))⟩⟩
  refine cF e11 ?_
  by_cases e12 : x = 12
  · subst e12
    exact cT rfl ⟨k1, m_rR I.1.1 ⟨c2, c_partsRejectedFor cr0.1 (nI 3) (by rw [cc 3 (by decide) (by decide)]; exact H _ _ (fun K h => cF (by decide) (cF (by decide) (cF (by decide) (cF (by decide) (cF (by decide) (cF (by decide) (cF (by decide) (cF (by decide) (cF (by decide) (cF (by decide) (cF (by decide) (cF (by decide) (cT rfl ⟨k449, q_r0 R.qq (q_rI R.qq 8 rfl (by decide) (h M V))⟩))))))))))))))⟩⟩
  refine cF e12 ?_
  by_cases e13 : x = 13
  · subst e13
    exact cT rfl ⟨k1, m_rR I.1.1 ⟨c2, c_partsRejectedFor cr0.1 (nI 4) (by rw [cc 4 (by decide) (by decide)]; exact H _ _ (fun K h => cF (by decide) (cF (by decide) (cF (by decide) (cF (by decide) (cF (by decide) (cF (by decide) (cF (by decide) (cF (by decide) (cF (by decide) (cF (by decide) (cF (by decide) (cF (by decide) (cF (by decide) (cT rfl ⟨k449, q_r0 R.qq (q_rI R.qq 9 rfl (by decide) (h M V))⟩)))))))))))))))⟩⟩
  refine cF e13 ?_
  by_cases e14 : x = 14
  · subst e14
    exact cT rfl ⟨k1, m_rR I.1.1 ⟨c2, c_partsRejectedFor cr0.1 (nI 5) (by rw [cc 5 (by decide) (by decide)]; exact H _ _ (fun K h => cF (by decide) (cF (by decide) (cF (by decide) (cF (by decide) (cF (by decide) (cF (by decide) (cF (by decide) (cF (by decide) (cF (by decide) (cF (by decide) (cF (by decide) (cF (by decide) (cF (by decide) (cF (by decide) (cT rfl ⟨k449, q_r0 R.qq (q_rI R.qq 10 rfl (by decide) (h M V))⟩))))))))))))))))⟩⟩
  refine cF e14 ?_
  by_cases e15 : x = 15
  · subst e15
    exact cT rfl ⟨k1, by rw [I.2.2.2.2.1.2.1]; exact H _ _ (fun K h => cF (by decide) (cF (by decide) (cF (by decide) (cF (by decide) (cF (by decide) (cF (by decide) (cF (by decide) (cF (by decide) (cF (by decide) (cF (by decide) (cF (by decide) (cF (by decide) (cF (by decide) (cF (by decide) (cF (by decide) (cT rfl ⟨k449, by rw [R.2.1.1]; exact h M V⟩))))))))))))))))⟩
  refine cF e15 ?_
  by_cases e16 : x = 16
  · subst e16
    exact cT rfl ⟨k1, m_rR I.1.2.2.2.1 ⟨k447, by rw [I.2.2.2.2.2.2.2.1]; exact H _ _ (fun K h => cF (by decide) (cF (by decide) (cF (by decide) (cF (by decide) (cF (by decide) (cF (by decide) (cF (by decide) (cF (by decide) (cF (by decide) (cF (by decide) (cF (by decide) (cF (by decide) (cF (by decide) (cF (by decide) (cF (by decide) (cF (by decide) (cT rfl ⟨k449, by rw [R.2.2.2.1]; exact h M V⟩)))))))))))))))))⟩⟩
  refine cF e16 ?_
  exact H _ _ (fun K h => cF e0 (cF e1 (cF e2 (cF e3 (cF e4 (cF e5 (cF e6 (cF e7 (cF e8 (cF e9 (cF e10 (cF e11 (cF e12 (cF e13 (cF e14 (cF e15 (cF e16 (h M V))))))))))))))))))

theorem y_pressureBits {K : Int64 → Mem → Prop} (V : INV M b) (x : Int32) (H : ∀ v M1, An (w_X6_pressureBits 457 M1 449 x) v b → K v M1) : w_X5_pressureBits 457 M 1 x K := by
  obtain ⟨s, Hs, k, z, f, q, tl, tx, I, R⟩ := id V
  have cr0 := I.2.2.2.1.1
  have w0 := I.2.2.2.1.2
  have c2 := kc0 car2
  refine ⟨k1, m_rR I.1.1 ⟨c2, ?_⟩⟩
  rcases argc x (n := 3) (by omega) with e | ⟨i, hi, rfl⟩
  · have o : x < 0 ∨ (2 : Int32) < x := by
      rcases e with e | e
      · exact Or.inl e
      · refine Or.inr ?_
        rw [Int32.le_iff_toInt_le] at e
        rw [Int32.lt_iff_toInt_lt]
        have : (nI 3).toInt = 3 := rfl
        have : (2 : Int32).toInt = 2 := rfl
        omega
    have ne : ∀ i, i < 3 → x ≠ nI i := by
      intro i hi y
      subst y
      rcases o with o | o
      · exact nI_pos (by omega) o
      · have := (nI_ltI (a := 2) (by decide) (by omega)).mp o
        omega
    exact c_pressN (ne 0 (by decide)) (ne 1 (by decide)) (ne 2 (by decide)) (cP rfl (H _ _ (fun K h => s_inF o (cT rfl (h M V)))))
  · refine c_pressY cr0.1 i hi (cN (by omega) ⟨kcP car2 i hi, ?_⟩)
    rw [(cr0.2.2.1 i hi).1]
    refine H _ _ (fun K h => s_inT (nI_pos (by omega)) (fun e => ?_) (cF (by decide) ⟨k449, q_r3 R.qq (q_rD R.qq i rfl (by omega) (cT ?_ (cP rfl (h M V))))⟩))
    · have := (nI_ltI (a := 2) (by decide) (by omega)).mp e
      omega
    · obtain ⟨r1, r2, r3, r4⟩ := w0.2.1
      refine dself_ok ?_
      rcases (show i = 0 ∨ i = 1 ∨ i = 2 by omega) with rfl | rfl | rfl
      · exact Nat.le_trans r1 (by decide)
      · exact r3
      · exact r4
theorem WO.tr {N : Nat → Nat} {D : Nat → UInt64} {h : Nat} (w : WO N D h) (h3 : N (12 + 10 * h + 3) ≠ 0) : ∀ j, j < N (12 + 10 * h + 8) → decn (nI (N (92 + 8 * (N (12 + 10 * h + 3) - 1) + 1))) (BY (N (92 + 8 * (N (12 + 10 * h + 3) - 1) + 2))) (D (5 + 12 * h + 0)) j = D (5 + 12 * h + j) := by
  obtain ⟨o1, o2, o3, o4, o5, o6⟩ := w h3
  intro j
  induction j with
  | zero => intro _; rfl
  | succ j ih =>
    intro hj
    rw [o6 j hj, ← ih (by omega)]
    rfl
theorem y_trace {K : UInt64 → Mem → Prop} (V : INV M b) (x y : Int32) (H : ∀ v M1, An (w_X6_trace 457 M1 449 x y) v b → K v M1) : w_X5_trace 457 M 1 x y K := by
  obtain ⟨s, Hs, k, z, f, q, tl, tx, I, R⟩ := id V
  have cr0 := I.2.2.2.1.1
  have w0 := I.2.2.2.1.2
  have c2 := kc0 car2
  have g8 := w0.n.1
  have g60 := w0.n.2
  refine ⟨k1, m_rR I.1.1 ⟨c2, ?_⟩⟩
  rcases argc x (n := s.1 0) (by omega) with e | ⟨j, hj, rfl⟩
  · exact c_headN cr0.1 cr0.2.1.2.1 e (cP rfl (H _ _ (fun K h => ⟨k449, q_noHeadN R.qq g8 e (cN (by decide) (h M V))⟩)))
  have hj8 : j < 8 := by omega
  obtain ⟨X3, X4, X5, X6, -⟩ := cr0.2.2.2.1 j hj8
  obtain ⟨Y1, Y2, Y3⟩ := cr0.2.2.2.2.1 j hj
  have kh := kch car2 j hj8
  refine c_headY cr0.1 cr0.2.1.2.1 g8 j hj (cN (by omega) (m_rR I.1.1 ⟨kh, c2, ?_⟩))
  rw [X6]
  by_cases p0 : s.1 (12 + 10 * j + 3) = 0
  · rw [p0]
    refine c_partN cr0.1 cr0.2.1.2.2.1 (Or.inl (by decide)) (cT rfl (H _ _ (fun K h => ⟨k449, q_noHeadY R.qq g8 j hj (cP rfl (q_partOn0 R.qq j hj8 p0 (cT (by decide) (h M V))))⟩)))
  · obtain ⟨p, hp⟩ : ∃ p, s.1 (12 + 10 * j + 3) = p + 1 := ⟨s.1 (12 + 10 * j + 3) - 1, by omega⟩
    have wo := w0.2.2.2.1 j hj
    obtain ⟨o1, o2, o3, o4, o5, o6⟩ := wo p0
    have tr := WO.tr wo p0
    have t8 := WF.t8 w0 hj p0
    obtain ⟨y7, y8, y9⟩ := Y3 p0
    have p2 : p < s.1 2 := by omega
    have np : ¬ nI p < 0 := nI_pos (by omega)
    obtain ⟨z1, z2, z3, -⟩ := cr0.2.2.2.2.2.1 p p2
    obtain ⟨q0, q1, q2, q3, -⟩ := w0.2.2.2.2.2.2.1 p p2
    rw [hp, Nat.add_sub_cancel] at tr
    rw [hp, hp_s]
    refine c_partY cr0.1 cr0.2.1.2.2.1 g60 p p2 (cF (by omega) ?_)
    have rb : (y < 0 ∨ nI (s.1 (12 + 10 * j + 8)) ≤ y) → An (w_X6_trace 457 M 449 (nI j) y) 9221120237041090560 b := by
      intro o K h
      refine ⟨k449, q_noHeadY R.qq g8 j hj (cP rfl (q_partOn1 R.qq j p hj8 hp (cF np ?_)))⟩
      by_cases y1 : y < 0
      · exact cT y1 (h M V)
      · exact cF y1 (q_ofHead R.qq j 8 hj8 (by decide) (cF (not_lt_le (o.resolve_left y1)) (h M V)))
    by_cases y1 : y < 0
    · exact cT y1 (H _ _ (rb (Or.inl y1)))
    refine cF y1 ?_
    rw [y9]
    rcases argc y (n := s.1 (12 + 10 * j + 8)) (by omega) with e | ⟨i, hi, rfl⟩
    · have e' := e.resolve_left y1
      refine cF (fun a => ?_) (H _ _ (rb e))
      rw [Int32.le_iff_toInt_le, nI_toInt (by omega)] at a e'
      omega
    · refine cT (nI_le (by omega) (by omega)) ⟨kcp car2 p (by omega), ?_⟩
      rw [y7, z2, z3]
      refine s5_dec _ _ q1 q2 q3 _ (o5 0 (by omega)) i (by omega) ?_
      rw [tr i hi]
      exact H _ _ (fun K h => ⟨k449, q_noHeadY R.qq g8 j hj (cP rfl (q_partOn1 R.qq j p hj8 hp (cF np (cF y1 (q_ofHead R.qq j 8 hj8 (by decide) (cT (nI_lt hi (by omega)) (q_traced R.qq j i hj8 (by omega) (h M V))))))))⟩)
theorem y_foretold {K : UInt64 → Mem → Prop} (V : INV M b) (x y : Int32) (H : ∀ v M1, An (w_X6_foretold 457 M1 449 x y) v b → K v M1) : w_X5_foretold 457 M 1 x y K := by
  obtain ⟨s, Hs, k, z, f, q, tl, tx, I, R⟩ := id V
  have cr0 := I.2.2.2.1.1
  have w0 := I.2.2.2.1.2
  have c2 := kc0 car2
  have g8 := w0.n.1
  have g2 := w0.1.1
  have g60 := w0.n.2
  refine ⟨k1, m_rR I.1.1 ⟨c2, ?_⟩⟩
  rcases argc x (n := s.1 2) (by omega) with e | ⟨i, hi, rfl⟩
  · have a1 : An (w_X6_foretold 457 M 449 x y) 9221120237041090560 b := fun K h => ⟨k449, q_noPartN R.qq g60 e (cN (by decide) (h M V))⟩
    refine c_partN cr0.1 cr0.2.1.2.2.1 e (m_rR I.1.1 ⟨c2, ?_⟩)
    rcases argc y (n := s.1 0) (by omega) with e | ⟨j, hj, rfl⟩
    · exact c_headN cr0.1 cr0.2.1.2.1 e (cT rfl (H _ _ a1))
    · exact c_headY cr0.1 cr0.2.1.2.1 g8 j hj (cT rfl (H _ _ a1))
  have hi8 : i < 60 := by omega
  obtain ⟨z1, z2, z3, -⟩ := cr0.2.2.2.2.2.1 i hi
  obtain ⟨q0, q1, q2, q3, -⟩ := w0.2.2.2.2.2.2.1 i hi
  refine c_partY cr0.1 cr0.2.1.2.2.1 g60 i hi (m_rR I.1.1 ⟨c2, ?_⟩)
  rcases argc y (n := s.1 0) (by omega) with e | ⟨j, hj, rfl⟩
  · exact c_headN cr0.1 cr0.2.1.2.1 e (cF (by omega) (cP rfl (H _ _ (fun K h => ⟨k449, q_noPartY R.qq g60 i hi (cP rfl (q_noHeadN R.qq g8 e (cF (by decide) (h M V))))⟩))))
  have hj8 : j < 8 := by omega
  obtain ⟨Y1, Y2, Y3⟩ := cr0.2.2.2.2.1 j hj
  obtain ⟨a0, a1, a2, a3, a4, a5, a6, a7, a8⟩ := w0.2.2.1 j hj
  obtain ⟨r1, r2, -⟩ := w0.2.1
  have d0 : gD M (2 + 1) 3 = s.2.1 0 := (cr0.2.2.1 0 (by decide)).2
  have en : nI (s.1 0) - (1 : Int32) = nI (s.1 0 - 1) := pk_sub (b := 1) (by omega)
  obtain ⟨f1, f2, f3, f4, f5⟩ := val_ok (n := s.1 0 - 1) r1 (decn_ok r1 q1 q2 q3 (s.1 0 - 1)) q3 (by omega) (by omega) a7 a8
  refine c_headY cr0.1 cr0.2.1.2.1 g8 j hj (cF (by omega) (cN (by omega) (m_rR I.1.1 ⟨c2, c2, m_rR cr0.1.2.1.1 ⟨kcP car2 0 (by decide), kcp car2 i hi8, ?_⟩⟩)))
  rw [d0, z2, z3, cr0.2.1.2.1, en]
  refine s5_dec _ _ q1 q2 q3 _ r1 (s.1 0 - 1) (by omega) (m_rR cr0.1.2.1.1 ⟨kcP car2 0 (by decide), ?_⟩)
  rw [d0]
  refine ⟨f1, m_eq (c_valueOf car2 j i hj8 hi8 _ _ _ z3 cr0.2.1.2.1 (by omega) f2 f3 (by rw [Y1]; exact f4) (by rw [Y1, Y2]; exact f5) ?_)⟩
  rw [Y1, Y2]
  refine H _ _ (fun K h => ⟨k449, q_noPartY R.qq g60 i hi (cP rfl (q_noHeadY R.qq g8 j hj (cT rfl (q_r0 R.qq (q_rI R.qq 0 rfl (by decide) ?_)))))⟩)
  rw [en]
  refine m_eq (q_r3 R.qq (q_rD R.qq 0 rfl (by decide) (q_ofPart R.qq i 1 hi8 (by decide) (q_ofPart R.qq i 2 hi8 (by decide) ⟨by_ok q2 q3, m_eq ?_⟩))))
  refine q_dec _ _ q1 q2 q3 _ r1 (s.1 0 - 1) (by omega) ?_ 4000 0 (by omega) (by omega)
  exact q_r3 R.qq (q_rD R.qq 0 rfl (by decide) ⟨f1, m_eq (q_ofPart R.qq i 2 hi8 (by decide) ⟨f2, m_eq ⟨f3, m_eq (q_gain R.qq j hj8 ⟨f4, m_eq (q_factor R.qq j hj8 ⟨f5, m_eq (h M V)⟩)⟩)⟩⟩)⟩)
theorem y_display {K : Int32 → Mem → Prop} (V : INV M b) (x : Int32) (H : ∀ v M1, An (w_X6_display 457 M1 449 x) v b → K v M1) : w_X5_display 457 M 1 x K := by
  obtain ⟨s, Hs, k, z, f, q, tl, tx, I, R⟩ := id V
  have cr0 := I.2.2.2.1.1
  have w0 := I.2.2.2.1.2
  have c2 := kc0 car2
  have g8 := w0.n.1
  refine ⟨k1, m_rR I.1.1 ⟨c2, ?_⟩⟩
  rcases argc x (n := s.1 0) (by omega) with e | ⟨j, hj, rfl⟩
  · exact c_headN cr0.1 cr0.2.1.2.1 e (cP rfl (H _ _ (fun K h => ⟨k449, q_noHeadN R.qq g8 e (cF (by decide) (h M V))⟩)))
  have hj8 : j < 8 := by omega
  obtain ⟨X3, X4, X5, X6, -⟩ := cr0.2.2.2.1 j hj8
  obtain ⟨Y1, Y2, Y3⟩ := cr0.2.2.2.2.1 j hj
  have kh := kch car2 j hj8
  refine c_headY cr0.1 cr0.2.1.2.1 g8 j hj (cN (by omega) ⟨kh, ?_⟩)
  rw [X6]
  by_cases p0 : s.1 (12 + 10 * j + 3) = 0
  · rw [p0]
    exact cP rfl (H _ _ (fun K h => ⟨k449, q_noHeadY R.qq g8 j hj (cT rfl (q_partOn0 R.qq j hj8 p0 (cF (by decide) (h M V))))⟩))
  · obtain ⟨p, hp⟩ : ∃ p, s.1 (12 + 10 * j + 3) = p + 1 := ⟨s.1 (12 + 10 * j + 3) - 1, by omega⟩
    obtain ⟨o1, o2, o3, o4, o5, o6⟩ := w0.2.2.2.1 j hj p0
    have := w0.n.2
    have t8 := WF.t8 w0 hj p0
    obtain ⟨t, ht⟩ : ∃ t, s.1 (12 + 10 * j + 8) = t + 1 := ⟨s.1 (12 + 10 * j + 8) - 1, by omega⟩
    obtain ⟨y7, y8, -⟩ := Y3 p0
    rw [ht, Nat.add_sub_cancel] at y8
    have pz := o5 t (by omega)
    rw [hp, hp_s]
    refine cN (nI_ne5 (by omega)) ?_
    rw [y8]
    obtain ⟨u1, u2⟩ := bits_ok (M := M) (K := K) pz (H _ _ (fun K h => ⟨k449, q_noHeadY R.qq g8 j hj (cT rfl (q_partOn1 R.qq j p hj8 hp (cT (nI_pos' (by omega)) (q_present R.qq j t hj8 (by omega) ht ⟨(bits_ok (M := M) (K := fun _ _ => True) pz trivial).1, cT (fnan_ok pz) (cP rfl (h M V))⟩))))⟩))
    exact ⟨u1, u2⟩
