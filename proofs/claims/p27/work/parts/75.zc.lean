/-! p27, 6: counts, displays, gauges, values, traces, as told -/
variable {zz : Nat}
variable {M M' A : Mem} {b b' c h p k k' tl tl' : Nat} {s s' z z' : S3} {Hs : Nat → S3} {f f' : Bool} {q tx tx' : Nat → Nat} {N N' P : Nat → Nat} {D D' : Nat → UInt64}
abbrev NaN64 : UInt64 := 9221120237041090560
theorem z_count {K : Int32 → Mem → Prop} (I : CI M b s Hs k z f q tl tx) (i : Nat) (hi : i < 15) (H : K (nI (cT_ s i)) M) : w_X5_count (448 + zz) M 1 (nI i) K := by
  have cr0 := I.2.2.2.1.1
  have w0 := I.2.2.2.1.2
  have c2 := kc0 (zz := zz) car2
  have g60 := w0.n.2
  obtain ⟨s1, s2, s3, s4, s5⟩ := cr0.2.1
  obtain ⟨d0, d1, d2, d3, d4⟩ := w0.2.2.2.2.2.2.2.2
  have cs : ∀ e, e < 4 → cK (fun p => gI M (2 + 14 + p) 4) (nI e) 60 = cS s.1 e (s.1 2) := fun e he => cr_cS cr0 w0 e he
  have cc : ∀ e, 1 ≤ e → e ≤ 5 → cK (fun p => gI M (2 + 14 + p) 10) (nI e) 60 = s.1 (5 + e) := by
    intro e h1 h5
    rw [← d2 e h1 h5]
    refine cK_cnt _ _ e (s.1 2) 60 g60 (fun p hp => ?_) (fun p h1 h2 => ?_)
    · have w8 := (w0.2.2.2.2.2.2.1 p hp).2.2.2.2.2.2.2.2.1
      rw [(cr0.2.2.2.2.2.1 p hp).2.2.2.2.2.2.2.2.1]
      exact cp_eq h1 (by omega) (by omega)
    · rw [(cr0.2.2.2.2.2.2 p h1 h2).2.1]
      exact fun y => nI_ne5 (p := e) (by omega) y.symm
  have ct : sumK (fun h => gI M (2 + 5 + h) 10) 8 = nI (s.1 4) := by
    rw [← d3]
    exact sumK_sm _ _ 8 (fun h hh => (cr0.2.2.2.1 h hh).2.2.2.2.1)
  have ca : sumK (fun h => gI M (2 + 5 + h) 13) 8 = nI (s.1 5) := by
    rw [← d4]
    exact sumK_sm _ _ 8 (fun h hh => (cr0.2.2.2.1 h hh).2.2.2.2.2.2.2)
  rcases (show i = 0 ∨ i = 1 ∨ i = 2 ∨ i = 3 ∨ i = 4 ∨ i = 5 ∨ i = 6 ∨ i = 7 ∨ i = 8 ∨ i = 9 ∨ i = 10 ∨ i = 11 ∨ i = 12 ∨ i = 13 ∨ i = 14 by omega) with rfl | rfl | rfl | rfl | rfl | rfl | rfl | rfl | rfl | rfl | rfl | rfl | rfl | rfl | rfl
  · exact cT rfl ⟨(k1 (zz := zz)), m_rR I.1.1 ⟨c2, by rw [s2]; exact H⟩⟩
  · exact cF (by decide) (cT rfl ⟨(k1 (zz := zz)), m_rR I.1.1 ⟨c2, by rw [s4]; exact H⟩⟩)
  · exact cF (by decide) (cF (by decide) (cT rfl ⟨(k1 (zz := zz)), m_rR I.1.1 ⟨c2, by rw [s3]; exact H⟩⟩))
  · exact cF (by decide) (cF (by decide) (cF (by decide) (cT rfl ⟨(k1 (zz := zz)), m_rR I.1.1 ⟨c2, c_partsIn cr0.1 (nI 0) (by rw [cs 0 (by decide)]; exact H)⟩⟩)))
  · exact cF (by decide) (cF (by decide) (cF (by decide) (cF (by decide) (cT rfl ⟨(k1 (zz := zz)), m_rR I.1.1 ⟨c2, c_partsIn cr0.1 (nI 1) (by rw [cs 1 (by decide)]; exact H)⟩⟩))))
  · exact cF (by decide) (cF (by decide) (cF (by decide) (cF (by decide) (cF (by decide) (cT rfl ⟨(k1 (zz := zz)), m_rR I.1.1 ⟨c2, c_partsIn cr0.1 (nI 2) (by rw [cs 2 (by decide)]; exact H)⟩⟩)))))
  · exact cF (by decide) (cF (by decide) (cF (by decide) (cF (by decide) (cF (by decide) (cF (by decide) (cT rfl ⟨(k1 (zz := zz)), m_rR I.1.1 ⟨c2, c_partsIn cr0.1 (nI 3) (by rw [cs 3 (by decide)]; exact H)⟩⟩))))))
  · exact cF (by decide) (cF (by decide) (cF (by decide) (cF (by decide) (cF (by decide) (cF (by decide) (cF (by decide) (cT rfl ⟨(k1 (zz := zz)), m_rR I.1.1 ⟨c2, c_testsEnded cr0.1 (by rw [ct]; exact H)⟩⟩)))))))
  · exact cF (by decide) (cF (by decide) (cF (by decide) (cF (by decide) (cF (by decide) (cF (by decide) (cF (by decide) (cF (by decide) (cT rfl ⟨(k1 (zz := zz)), m_rR I.1.1 ⟨c2, c_testsRepeated cr0.1 (by rw [ca]; exact H)⟩⟩))))))))
  · exact cF (by decide) (cF (by decide) (cF (by decide) (cF (by decide) (cF (by decide) (cF (by decide) (cF (by decide) (cF (by decide) (cF (by decide) (cT rfl ⟨(k1 (zz := zz)), m_rR I.1.1 ⟨c2, by rw [s1]; exact H⟩⟩)))))))))
  · exact cF (by decide) (cF (by decide) (cF (by decide) (cF (by decide) (cF (by decide) (cF (by decide) (cF (by decide) (cF (by decide) (cF (by decide) (cF (by decide) (cT rfl ⟨(k1 (zz := zz)), m_rR I.1.1 ⟨c2, c_partsRejectedFor cr0.1 (nI 1) (by rw [cc 1 (by decide) (by decide)]; exact H)⟩⟩))))))))))
  · exact cF (by decide) (cF (by decide) (cF (by decide) (cF (by decide) (cF (by decide) (cF (by decide) (cF (by decide) (cF (by decide) (cF (by decide) (cF (by decide) (cF (by decide) (cT rfl ⟨(k1 (zz := zz)), m_rR I.1.1 ⟨c2, c_partsRejectedFor cr0.1 (nI 2) (by rw [cc 2 (by decide) (by decide)]; exact H)⟩⟩)))))))))))
  · exact cF (by decide) (cF (by decide) (cF (by decide) (cF (by decide) (cF (by decide) (cF (by decide) (cF (by decide) (cF (by decide) (cF (by decide) (cF (by decide) (cF (by decide) (cF (by decide) (cT rfl ⟨(k1 (zz := zz)), m_rR I.1.1 ⟨c2, c_partsRejectedFor cr0.1 (nI 3) (by rw [cc 3 (by decide) (by decide)]; exact H)⟩⟩))))))))))))
  · exact cF (by decide) (cF (by decide) (cF (by decide) (cF (by decide) (cF (by decide) (cF (by decide) (cF (by decide) (cF (by decide) (cF (by decide) (cF (by decide) (cF (by decide) (cF (by decide) (cF (by decide) (cT rfl ⟨(k1 (zz := zz)), m_rR I.1.1 ⟨c2, c_partsRejectedFor cr0.1 (nI 4) (by rw [cc 4 (by decide) (by decide)]; exact H)⟩⟩)))))))))))))
  · exact cF (by decide) (cF (by decide) (cF (by decide) (cF (by decide) (cF (by decide) (cF (by decide) (cF (by decide) (cF (by decide) (cF (by decide) (cF (by decide) (cF (by decide) (cF (by decide) (cF (by decide) (cF (by decide) (cT rfl ⟨(k1 (zz := zz)), m_rR I.1.1 ⟨c2, c_partsRejectedFor cr0.1 (nI 5) (by rw [cc 5 (by decide) (by decide)]; exact H)⟩⟩))))))))))))))
theorem z_count15 {K : Int32 → Mem → Prop} (I : CI M b s Hs k z f q tl tx) (H : K (nI k) M) : w_X5_count (448 + zz) M 1 15 K := by
  exact cF (by decide) (cF (by decide) (cF (by decide) (cF (by decide) (cF (by decide) (cF (by decide) (cF (by decide) (cF (by decide) (cF (by decide) (cF (by decide) (cF (by decide) (cF (by decide) (cF (by decide) (cF (by decide) (cF (by decide) (cT rfl ⟨(k1 (zz := zz)), by rw [I.2.2.2.2.1.2.1]; exact H⟩)))))))))))))))
theorem z_count17 {K : Int32 → Mem → Prop} (H : K (-2) M) : w_X5_count (448 + zz) M 1 17 K := by
  exact cF (by decide) (cF (by decide) (cF (by decide) (cF (by decide) (cF (by decide) (cF (by decide) (cF (by decide) (cF (by decide) (cF (by decide) (cF (by decide) (cF (by decide) (cF (by decide) (cF (by decide) (cF (by decide) (cF (by decide) (cF (by decide) (cF (by decide) H))))))))))))))))
/-- the display of a head -/
def dT (s : S3) (j : Nat) : Int32 := if s.1 (12 + 10 * j + 3) = 0 then -5 else UInt32.toInt32 (FP.d2f (s.2.1 (5 + 12 * j + (s.1 (12 + 10 * j + 8) - 1))))
theorem z_displayN {K : Int32 → Mem → Prop} (I : CI M b s Hs k z f q tl tx) (x : Int32) (hx : x < 0 ∨ nI (s.1 0) ≤ x) (H : K (-1) M) : w_X5_display (448 + zz) M 1 x K := by
  have cr0 := I.2.2.2.1.1
  exact ⟨(k1 (zz := zz)), m_rR I.1.1 ⟨kc0 (zz := zz) car2, c_headN cr0.1 cr0.2.1.2.1 hx (cP rfl H)⟩⟩
theorem z_display {K : Int32 → Mem → Prop} (I : CI M b s Hs k z f q tl tx) (j : Nat) (hj : j < s.1 0) (H : K (dT s j) M) : w_X5_display (448 + zz) M 1 (nI j) K := by
  have cr0 := I.2.2.2.1.1
  have w0 := I.2.2.2.1.2
  have c2 := kc0 (zz := zz) car2
  have g8 := w0.n.1
  have hj8 : j < 8 := by omega
  obtain ⟨X3, X4, X5, X6, -⟩ := cr0.2.2.2.1 j hj8
  obtain ⟨Y1, Y2, Y3⟩ := cr0.2.2.2.2.1 j hj
  have kh := kch (zz := zz) car2 j hj8
  unfold dT at H
  refine ⟨(k1 (zz := zz)), m_rR I.1.1 ⟨c2, c_headY cr0.1 cr0.2.1.2.1 g8 j hj (cN (by omega) ⟨kh, ?_⟩)⟩⟩
  rw [X6]
  by_cases p0 : s.1 (12 + 10 * j + 3) = 0
  · rw [if_pos p0] at H
    rw [p0]
    exact cP rfl H
  · rw [if_neg p0] at H
    obtain ⟨p, hp⟩ : ∃ p, s.1 (12 + 10 * j + 3) = p + 1 := ⟨s.1 (12 + 10 * j + 3) - 1, by omega⟩
    obtain ⟨o1, o2, o3, o4, o5, o6⟩ := w0.2.2.2.1 j hj p0
    have := w0.n.2
    obtain ⟨y7, y8, -⟩ := Y3 p0
    have pz := o5 (s.1 (12 + 10 * j + 8) - 1) (by omega)
    rw [hp, hp_s]
    refine cN (nI_ne5 (by omega)) ?_
    rw [y8]
    obtain ⟨u1, u2⟩ := bits_ok (M := M) (K := K) pz H
    exact ⟨u1, u2⟩
theorem z_pressureBits {K : Int64 → Mem → Prop} (I : CI M b s Hs k z f q tl tx) (i : Nat) (hi : i < 3) (H : K (s.2.1 i).toInt64 M) : w_X5_pressureBits (448 + zz) M 1 (nI i) K := by
  have cr0 := I.2.2.2.1.1
  refine ⟨(k1 (zz := zz)), m_rR I.1.1 ⟨kc0 (zz := zz) car2, c_pressY cr0.1 i hi (cN (by omega) ⟨kcP (zz := zz) car2 i hi, ?_⟩)⟩⟩
  rw [(cr0.2.2.1 i hi).1]
  exact H
theorem z_pressureBits3 {K : Int64 → Mem → Prop} (I : CI M b s Hs k z f q tl tx) (H : K (-2) M) : w_X5_pressureBits (448 + zz) M 1 3 K :=
  ⟨(k1 (zz := zz)), m_rR I.1.1 ⟨kc0 (zz := zz) car2, c_pressN (by decide) (by decide) (by decide) (cP rfl H)⟩⟩
theorem z_gauge {K : UInt64 → Mem → Prop} (I : CI M b s Hs k z f q tl tx) (j : Nat) (hj : j < s.1 0) (i : Nat) (hi : i < 2) (H : K (s.2.1 (3 + 12 * j + i)) M) : w_X5_gauge (448 + zz) M 1 (nI j) (nI i) K := by
  have cr0 := I.2.2.2.1.1
  have w0 := I.2.2.2.1.2
  have c2 := kc0 (zz := zz) car2
  have g8 := w0.n.1
  have hj8 : j < 8 := by omega
  obtain ⟨Y1, Y2, Y3⟩ := cr0.2.2.2.2.1 j hj
  have kh := kch (zz := zz) car2 j hj8
  refine ⟨(k1 (zz := zz)), m_rR I.1.1 ⟨c2, c_headY cr0.1 cr0.2.1.2.1 g8 j hj (cN (by omega) ?_)⟩⟩
  rcases (show i = 0 ∨ i = 1 by omega) with rfl | rfl
  · refine cP rfl ⟨kh, ?_⟩
    rw [Y1]; exact H
  · refine cN (by decide) (cP rfl ⟨kh, ?_⟩)
    rw [Y2, show 4 + 12 * j = 3 + 12 * j + 1 by omega]; exact H
theorem z_gaugeN {K : UInt64 → Mem → Prop} (I : CI M b s Hs k z f q tl tx) (j : Nat) (hj : j < s.1 0) (h3 : s.1 (12 + 10 * j + 3) = 0) (i : Nat) (hi : 2 ≤ i) (hi2 : i < 100) (H : K NaN64 M) : w_X5_gauge (448 + zz) M 1 (nI j) (nI i) K := by
  have cr0 := I.2.2.2.1.1
  have w0 := I.2.2.2.1.2
  have c2 := kc0 (zz := zz) car2
  have g8 := w0.n.1
  have hj8 : j < 8 := by omega
  obtain ⟨X3, X4, X5, X6, -⟩ := cr0.2.2.2.1 j hj8
  have kh := kch (zz := zz) car2 j hj8
  refine ⟨(k1 (zz := zz)), m_rR I.1.1 ⟨c2, c_headY cr0.1 cr0.2.1.2.1 g8 j hj (cN (by omega) (cN (fun e => ?_) (cN (fun e => ?_) ⟨kh, ?_⟩)))⟩⟩
  · have := (nI_eq (b := 0) (by omega) (by decide)).mp e; omega
  · have := (nI_eq (b := 1) (by omega) (by decide)).mp e; omega
  rw [X6, h3]
  exact cP rfl H
theorem z_gaugeP {K : UInt64 → Mem → Prop} (I : CI M b s Hs k z f q tl tx) (j : Nat) (hj : j < s.1 0) (h3 : s.1 (12 + 10 * j + 3) ≠ 0) (i : Nat) (hi : i = 2 ∨ i = 3) (H : K (s.2.1 (5 + 12 * j + (if i = 2 then 0 else s.1 (12 + 10 * j + 8) - 1))) M) : w_X5_gauge (448 + zz) M 1 (nI j) (nI i) K := by
  have cr0 := I.2.2.2.1.1
  have w0 := I.2.2.2.1.2
  have c2 := kc0 (zz := zz) car2
  have g8 := w0.n.1
  have hj8 : j < 8 := by omega
  obtain ⟨X3, X4, X5, X6, -⟩ := cr0.2.2.2.1 j hj8
  obtain ⟨Y1, Y2, Y3⟩ := cr0.2.2.2.2.1 j hj
  obtain ⟨y7, y8, -⟩ := Y3 h3
  have kh := kch (zz := zz) car2 j hj8
  obtain ⟨p, hp⟩ : ∃ p, s.1 (12 + 10 * j + 3) = p + 1 := ⟨s.1 (12 + 10 * j + 3) - 1, by omega⟩
  have := (w0.2.2.2.1 j hj h3).1
  have := w0.n.2
  rcases hi with rfl | rfl
  · refine ⟨(k1 (zz := zz)), m_rR I.1.1 ⟨c2, c_headY cr0.1 cr0.2.1.2.1 g8 j hj (cN (by omega) (cN (by decide) (cN (by decide) ⟨kh, ?_⟩)))⟩⟩
    rw [X6, hp, hp_s]
    refine cN (nI_ne5 (by omega)) (cP rfl ?_)
    rw [y7]; exact H
  · refine ⟨(k1 (zz := zz)), m_rR I.1.1 ⟨c2, c_headY cr0.1 cr0.2.1.2.1 g8 j hj (cN (by omega) (cN (by decide) (cN (by decide) ⟨kh, ?_⟩)))⟩⟩
    rw [X6, hp, hp_s]
    refine cN (nI_ne5 (by omega)) (cN (by decide) (cP rfl ?_))
    rw [y8]; exact H
theorem z_value {K : UInt64 → Mem → Prop} (I : CI M b s Hs k z f q tl tx) (hb : b ≤ 20480) (i : Nat) (hi : i < s.1 2) (H0 : s.1 (92 + 8 * i + 4) = 0 → K NaN64 M) (H : s.1 (92 + 8 * i + 4) ≠ 0 → K (s.2.1 (99 + i)) M) : w_X5_value (448 + zz) M 1 (nI i) K := by
  have cr0 := I.2.2.2.1.1
  have w0 := I.2.2.2.1.2
  have c2 := kc0 (zz := zz) car2
  have g60 := w0.n.2
  have hi8 : i < 60 := by omega
  obtain ⟨z1, z2, z3, z4, z5, z6, z7, z8, z10, z9⟩ := cr0.2.2.2.2.2.1 i hi
  obtain ⟨q0, q1, q2, q3, q4, q5, -⟩ := w0.2.2.2.2.2.2.1 i hi
  refine ⟨(k1 (zz := zz)), m_rR I.1.1 ⟨c2, c_partY cr0.1 cr0.2.1.2.2.1 g60 i hi (cF (by omega) ⟨kcp (zz := zz) car2 i hi8, ?_⟩)⟩⟩
  rw [z6]
  by_cases e : s.1 (92 + 8 * i + 4) = 0
  · exact cP (by rw [e]; rfl) (H0 e)
  · have n0 : ¬ nI (s.1 (92 + 8 * i + 4)) = 0 := nI_ne0 (by omega) (by omega)
    refine cN n0 ?_
    rw [z9 e]
    exact H e
theorem z_traceE {K : UInt64 → Mem → Prop} (I : CI M b s Hs k z f q tl tx) (j : Nat) (hj : j < s.1 0) (y : Int32) (h3 : s.1 (12 + 10 * j + 3) = 0) (H : K NaN64 M) : w_X5_trace (448 + zz) M 1 (nI j) y K := by
  have cr0 := I.2.2.2.1.1
  have w0 := I.2.2.2.1.2
  have c2 := kc0 (zz := zz) car2
  have g8 := w0.n.1
  have hj8 : j < 8 := by omega
  obtain ⟨X3, X4, X5, X6, -⟩ := cr0.2.2.2.1 j hj8
  have kh := kch (zz := zz) car2 j hj8
  refine ⟨(k1 (zz := zz)), m_rR I.1.1 ⟨c2, c_headY cr0.1 cr0.2.1.2.1 g8 j hj (cN (by omega) (m_rR I.1.1 ⟨kh, c2, ?_⟩))⟩⟩
  rw [X6, h3]
  exact c_partN cr0.1 cr0.2.1.2.2.1 (Or.inl (by decide)) (cT rfl H)
theorem z_traceP {K : UInt64 → Mem → Prop} (I : CI M b s Hs k z f q tl tx) (j : Nat) (hj : j < s.1 0) (y : Int32) (h3 : s.1 (12 + 10 * j + 3) ≠ 0) (H0 : (y < 0 ∨ nI (s.1 (12 + 10 * j + 8)) ≤ y) → K NaN64 M) (H : ∀ i, i < s.1 (12 + 10 * j + 8) → y = nI i → K (s.2.1 (5 + 12 * j + i)) M) : w_X5_trace (448 + zz) M 1 (nI j) y K := by
  have cr0 := I.2.2.2.1.1
  have w0 := I.2.2.2.1.2
  have c2 := kc0 (zz := zz) car2
  have g8 := w0.n.1
  have g60 := w0.n.2
  have hj8 : j < 8 := by omega
  obtain ⟨X3, X4, X5, X6, -⟩ := cr0.2.2.2.1 j hj8
  obtain ⟨Y1, Y2, Y3⟩ := cr0.2.2.2.2.1 j hj
  have kh := kch (zz := zz) car2 j hj8
  obtain ⟨p, hp⟩ : ∃ p, s.1 (12 + 10 * j + 3) = p + 1 := ⟨s.1 (12 + 10 * j + 3) - 1, by omega⟩
  have wo := w0.2.2.2.1 j hj
  obtain ⟨o1, o2, o3, o4, o5, o6⟩ := wo h3
  have tr := WO.tr wo h3
  have t8 := WF.t8 w0 hj h3
  obtain ⟨y7, y8, y9⟩ := Y3 h3
  have p2 : p < s.1 2 := by omega
  obtain ⟨z1, z2, z3, -⟩ := cr0.2.2.2.2.2.1 p p2
  obtain ⟨q0, q1, q2, q3, -⟩ := w0.2.2.2.2.2.2.1 p p2
  rw [hp, Nat.add_sub_cancel] at tr
  refine ⟨(k1 (zz := zz)), m_rR I.1.1 ⟨c2, c_headY cr0.1 cr0.2.1.2.1 g8 j hj (cN (by omega) (m_rR I.1.1 ⟨kh, c2, ?_⟩))⟩⟩
  rw [X6, hp, hp_s]
  refine c_partY cr0.1 cr0.2.1.2.2.1 g60 p p2 (cF (by omega) ?_)
  by_cases y1 : y < 0
  · exact cT y1 (H0 (Or.inl y1))
  refine cF y1 ?_
  rw [y9]
  rcases argc y (n := s.1 (12 + 10 * j + 8)) (by omega) with e | ⟨i, hi, rfl⟩
  · have e' := e.resolve_left y1
    refine cF (fun a => ?_) (H0 e)
    rw [Int32.le_iff_toInt_le, nI_toInt (by omega)] at a e'
    omega
  · refine cT (nI_le (by omega) (by omega)) ⟨kcp (zz := zz) car2 p (by omega), ?_⟩
    rw [y7, z2, z3]
    refine s5_dec _ _ q1 q2 q3 _ (o5 0 (by omega)) i (by omega) ?_
    rw [tr i hi]
    exact H i hi rfl
theorem z_fits {K : Int32 → Mem → Prop} (I : CI M b s Hs k z f q tl tx) (x y : Int32) (hx : x < 0 ∨ nI (s.1 2) ≤ x) (hy : ∃ j, j < s.1 0 ∧ y = nI j) (H : K (-1) M) : w_X5_fits (448 + zz) M 1 x y K := by
  have cr0 := I.2.2.2.1.1
  have w0 := I.2.2.2.1.2
  obtain ⟨j, hj, rfl⟩ := hy
  exact ⟨(k1 (zz := zz)), m_rR I.1.1 ⟨kc0 (zz := zz) car2, c_partN cr0.1 cr0.2.1.2.2.1 hx (m_rR I.1.1 ⟨kc0 (zz := zz) car2, c_headY cr0.1 cr0.2.1.2.1 w0.n.1 j hj (cT rfl H)⟩)⟩⟩
