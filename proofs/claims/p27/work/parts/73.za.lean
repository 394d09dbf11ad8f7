/-! p27, 4: the class's acts, as what they do to the told states -/
variable {zz : Nat}
variable {M M' A : Mem} {b b' c h p k k' tl tl' : Nat} {s s' z z' : S3} {Hs : Nat → S3} {f f' : Bool} {q tx tx' : Nat → Nat} {N N' P : Nat → Nat} {D D' : Nat → UInt64}
theorem z_buildN {K : Int32 → Mem → Prop} (x : Int32) (hx : x < 2 ∨ (8 : Int32) < x) (H : K (-2) M) : w_X5_build (448 + zz) M 1 x K := by
  by_cases h1 : x < 2
  · exact cT h1 H
  · exact cF h1 (cF (fun y => not_lt_le y (hx.resolve_left h1)) H)
theorem z_build {K : Int32 → Mem → Prop} (I : CI M b s Hs k z f q tl tx) (j : Nat) (j1 : 2 ≤ j) (j2 : j ≤ 8) (H : ∀ M' q', CI M' b (bgN s.1 j, bgD s.2.1 j, s.2.2) (psT Hs k s) (psK k) z f q' tl tx → K (nI (s.1 2)) M') : w_X5_build (448 + zz) M 1 (nI j) K := by
  refine cF (fun e => ?_) (cT (nI_le (b := 8) j2 (by decide)) ⟨(k1 (zz := zz)), c_remember I (fun M1 q1 I1 F1 => ?_)⟩)
  · have := (nI_ltI (b := 2) (by omega) (by decide)).mp e; omega
  have r0 := I1.1.1
  have cr := I1.2.2.2.1.1
  have w := I1.2.2.2.1.2
  refine m_rR r0 ⟨kc0 (zz := zz) car2, m_eq (m_rR r0 ⟨kc0 (zz := zz) car2, c_begin cr.1 j ?_⟩)⟩
  rw [show gI M1 2 7 = nI (s.1 2) from cr.2.1.2.2.1]
  exact H _ q1 (I1.act (s' := (bgN s.1 j, bgD s.2.1 j, s.2.2)) (onC_bg j) (cr_begin cr j j1 j2) (wf_begin ⟨w.1.2.2.2.2.1, w.1.2.2.2.2.2.1⟩ w.2.1 j j1 j2) (Nat.le_refl b))
theorem z_setIntervalN {K : Int32 → Mem → Prop} (x : Int32) (hx : x < 1 ∨ (99 : Int32) < x) (H : K (-2) M) : w_X5_setInterval (448 + zz) M 1 x K := by
  by_cases h1 : x < 1
  · exact cT h1 H
  · exact cF h1 (cF (fun y => not_lt_le y (hx.resolve_left h1)) H)
theorem z_setInterval {K : Int32 → Mem → Prop} (I : CI M b s Hs k z f q tl tx) (j : Nat) (j1 : 1 ≤ j) (j2 : j ≤ 99) (H0 : j = s.1 3 → K (-5) M) (H : j ≠ s.1 3 → ∀ M' q', CI M' b (up s.1 3 j, s.2.1, s.2.2) (psT Hs k s) (psK k) z f q' tl tx → K (nI (s.1 3)) M') : w_X5_setInterval (448 + zz) M 1 (nI j) K := by
  have cr0 := I.2.2.2.1.1
  have w0 := I.2.2.2.1.2
  have i3 : gI M 2 5 = nI (s.1 3) := cr0.2.1.1
  have b3 := w0.1.2.2.2.2.2.1
  refine cF (fun e => ?_) (cT (nI_le (b := 99) j2 (by decide)) ⟨(k1 (zz := zz)), m_rR I.1.1 ⟨kc0 (zz := zz) car2, ?_⟩⟩)
  · have := (nI_ltI (b := 1) (by omega) (by decide)).mp e; omega
  rw [i3]
  by_cases e : j = s.1 3
  · exact cP (by rw [e]) (H0 e)
  · have ne : ¬ nI j = nI (s.1 3) := fun y => e ((nI_eq (by omega) (by omega)).mp y)
    refine cN ne (c_remember I (fun M1 q1 I1 F1 => ?_))
    have r0 := I1.1.1
    have cr := I1.2.2.2.1.1
    have w := I1.2.2.2.1.2
    refine m_rR r0 ⟨kc0 (zz := zz) car2, m_eq (m_rR r0 ⟨kc0 (zz := zz) car2, m_eq ?_⟩)⟩
    have o : OnC 2 M1 (sI M1 2 5 (nI j)) := onC_I (by decide) (by decide)
    rw [show gI M1 2 5 = nI (s.1 3) from cr.2.1.1]
    refine H e _ q1 (I1.act (s' := (up s.1 3 j, s.2.1, s.2.2)) o ?_ (wf_3 w j j1 j2) (Nat.le_refl b))
    obtain ⟨s1, s2, s3, s4, s5⟩ := cr.2.1
    show CR _ 2 (up s.1 3 j) s.2.1 s.2.2
    refine cr_cs cr (fun r k hr => gI_ne (Or.inl hr)) rfl ⟨?_, ?_, ?_, ?_, ?_⟩ (fun x hx => up_ne (by omega))
    · rw [gI_eq, up_eq]
    · rw [gI_ne (Or.inr (by decide)), up_ne (by decide)]; exact s2
    · rw [gI_ne (Or.inr (by decide)), up_ne (by decide)]; exact s3
    · rw [gI_ne (Or.inr (by decide)), up_ne (by decide)]; exact s4
    · rw [gI_ne (Or.inr (by decide)), up_ne (by decide), up_ne (by decide)]; exact s5
theorem z_equipN {K : Int32 → Mem → Prop} (I : CI M b s Hs k z f q tl tx) (j : Nat) (hj : j < s.1 0) (y v : Int32) (hy : (1000 : Int32) < y) (H : K (-2) M) : w_X5_equip (448 + zz) M 1 (nI j) y v K := by
  have cr0 := I.2.2.2.1.1
  have w0 := I.2.2.2.1.2
  refine ⟨(k1 (zz := zz)), m_rR I.1.1 ⟨kc0 (zz := zz) car2, c_headY cr0.1 cr0.2.1.2.1 w0.n.1 j hj (cN (by omega) ?_)⟩⟩
  by_cases y1 : y < 0
  · exact cT y1 H
  · exact cF y1 (cT hy H)
theorem z_equip {K : Int32 → Mem → Prop} (I : CI M b s Hs k z f q tl tx) (j : Nat) (hj : j < s.1 0) (w u : Nat) (w2 : w ≤ 1000) (u2 : u ≤ 2) (H0 : w = s.1 (12 + 10 * j + 0) ∧ u = s.1 (12 + 10 * j + 1) → K (-5) M) (H : ¬ (w = s.1 (12 + 10 * j + 0) ∧ u = s.1 (12 + 10 * j + 1)) → ∀ M' q', CI M' b (up (up s.1 (12 + 10 * j + 0) w) (12 + 10 * j + 1) u, s.2.1, s.2.2) (psT Hs k s) (psK k) z f q' tl tx → K (nI (s.1 (12 + 10 * j + 0))) M') : w_X5_equip (448 + zz) M 1 (nI j) (nI w) (nI u) K := by
  have cr0 := I.2.2.2.1.1
  have w0 := I.2.2.2.1.2
  have c2 := kc0 (zz := zz) car2
  have hj8 : j < 8 := by have := w0.n.1; omega
  refine ⟨(k1 (zz := zz)), m_rR I.1.1 ⟨c2, c_headY cr0.1 cr0.2.1.2.1 w0.n.1 j hj (cN (by omega) ?_)⟩⟩
  refine cF (nI_pos (by omega)) (cF (fun e => ?_) (cF (nI_pos (by omega)) (cT (nI_le (b := 2) u2 (by decide)) ⟨kch (zz := zz) car2 j hj8, ?_⟩)))
  · have := (nI_ltI (a := 1000) (by decide) (by omega)).mp e; omega
  obtain ⟨x3, x4, -⟩ := cr0.2.2.2.1 j hj8
  obtain ⟨a0, a1, -⟩ := w0.2.2.1 j hj
  rw [x3, x4]
  have act : ¬ (w = s.1 (12 + 10 * j + 0) ∧ u = s.1 (12 + 10 * j + 1)) → w_X5_remember (448 + zz) M 1 (fun M7 => (∀ x8, x8 = gI M7 (2 + 5 + j) 3 → (∀ M9, M9 = sI M7 (2 + 5 + j) 3 (nI w) → (∀ M10, M10 = sI M9 (2 + 5 + j) 4 (nI u) → K x8 M10)))) := by
    intro ne
    refine c_remember I (fun M1 q1 I1 F1 => m_eq (m_eq (m_eq ?_)))
    have cr := I1.2.2.2.1.1
    have wf := I1.2.2.2.1.2
    have o : OnC 2 M1 (sI (sI M1 (2 + 5 + j) 3 (nI w)) (2 + 5 + j) 4 (nI u)) := (onC_I (by omega) (by omega)).trans (onC_I (by omega) (by omega))
    obtain ⟨X3, X4, X5, X6, X10, X11, X12, X13⟩ := cr.2.2.2.1 j hj8
    rw [X3]
    refine H ne _ q1 (I1.act (s' := (up (up s.1 (12 + 10 * j + 0) w) (12 + 10 * j + 1) u, s.2.1, s.2.2)) o ?_ ?_ (Nat.le_refl b))
    · show CR _ 2 (up (up s.1 (12 + 10 * j + 0) w) (12 + 10 * j + 1) u) s.2.1 s.2.2
      obtain ⟨y1, y2, y3⟩ := cr.2.2.2.2.1 j hj
      refine cr_updh cr j hj wf.n.1 wf.n.2 (WF.t10 wf) (fun r k hr => by rw [gI_ne (Or.inl hr), gI_ne (Or.inl hr)]) (fun _ _ _ => rfl) rfl ?_ ?_ ?_ ?_ (fun _ _ => rfl) (fun _ _ _ _ _ => rfl) (fun _ _ => rfl) ?_ ?_
      · rw [gI_ne (Or.inr (by decide)), gI_ne (Or.inr (by decide))]
      · intro j' hj'; rw [up_ne (by omega), up_ne (by omega)]
      · intro h' _ e k hk; rw [up_ne (by omega), up_ne (by omega)]
      · intro x hx; rw [up_ne (by omega), up_ne (by omega)]
      · unfold HI
        simp (disch := omega) only [gI_ne, gI_eq, up_ne, up_eq]
        exact ⟨trivial, trivial, X5, X6, X10, X11, X12, X13⟩
      · unfold HD
        simp (disch := omega) only [gI_ne, gD_sI, up_ne]
        exact ⟨y1, y2, y3⟩
    · show WF (up (up s.1 (12 + 10 * j + 0) w) (12 + 10 * j + 1) u) s.2.1 s.2.2 b
      obtain ⟨g0, g1, g2, g3, g4, g5, g6, g7, g8⟩ := wf.2.2.1 j hj
      refine wf_updh wf hj ?_ ?_ ?_ (fun _ _ => rfl) (fun _ _ _ _ _ => rfl) (fun _ _ => rfl) ?_ ?_ ?_ ?_ ?_
      · intro j' hj'; rw [up_ne (by omega), up_ne (by omega)]
      · intro h' _ e k hk; rw [up_ne (by omega), up_ne (by omega)]
      · intro x hx; rw [up_ne (by omega), up_ne (by omega)]
      · unfold WH
        simp (disch := omega) only [up_ne, up_eq]
        exact ⟨w2, u2, g2, g3, g4, g5, g6, g7, g8⟩
      · rw [up_ne (by omega), up_ne (by omega)]
      · rw [up_ne (by omega), up_ne (by omega)]
      · rw [up_ne (by omega), up_ne (by omega)]
      · rw [up_ne (by omega), up_ne (by omega)]
  by_cases e1 : w = s.1 (12 + 10 * j + 0)
  · refine cP (by rw [e1]) ?_
    by_cases e2 : u = s.1 (12 + 10 * j + 1)
    · exact cP (by rw [e2]) (H0 ⟨e1, e2⟩)
    · exact cN (fun y => e2 ((nI_eq (by omega) (by omega)).mp y)) (act (fun y => e2 y.2))
  · exact cN (fun y => e1 ((nI_eq (by omega) (by omega)).mp y)) (act (fun y => e1 y.1))
theorem z_calibrateN {K : Int32 → Mem → Prop} (I : CI M b s Hs k z f q tl tx) (x y : Int32) (hx : x < 0 ∨ nI (s.1 0) ≤ x) (H : K (-1) M) : w_X5_calibrate (448 + zz) M 1 x y K := by
  have cr0 := I.2.2.2.1.1
  exact ⟨(k1 (zz := zz)), m_rR I.1.1 ⟨kc0 (zz := zz) car2, c_headN cr0.1 cr0.2.1.2.1 hx (cP rfl H)⟩⟩
theorem z_calibrate {K : Int32 → Mem → Prop} (I : CI M b s Hs k z f q tl tx) (hb : b ≤ 20480) (j : Nat) (hj : j < s.1 0) (m : Nat) (m1 : 1 ≤ m) (m2 : m ≤ 99999) (H0 : s.1 (12 + 10 * j + 3) ≠ 0 → K (-4) M) (H : s.1 (12 + 10 * j + 3) = 0 → ∀ M' q', CI M' b (up s.1 (12 + 10 * j + 2) 0, up s.2.1 (4 + 12 * j) (calV s.2.1 s.1 j m), s.2.2) (psT Hs k s) (psK k) z f q' tl tx → K (nI (s.1 (12 + 10 * j + 2))) M') : w_X5_calibrate (448 + zz) M 1 (nI j) (nI m) K := by
  have cr0 := I.2.2.2.1.1
  have w0 := I.2.2.2.1.2
  have c2 := kc0 (zz := zz) car2
  have g0 := w0.1.1
  have g8 := w0.n.1
  have hj8 : j < 8 := by omega
  refine ⟨(k1 (zz := zz)), m_rR I.1.1 ⟨c2, c_headY cr0.1 cr0.2.1.2.1 w0.n.1 j hj (cN (by omega) ?_)⟩⟩
  refine cF (fun e => ?_) (cT (nI_le (b := 99999) m2 (by decide)) ⟨kch (zz := zz) car2 j hj8, ?_⟩)
  · have := (nI_ltI (b := 1) (by omega) (by decide)).mp e; omega
  obtain ⟨x3, x4, x5, x6, -⟩ := cr0.2.2.2.1 j hj8
  rw [x6]
  by_cases e3 : s.1 (12 + 10 * j + 3) = 0
  · refine cT (by rw [e3]; rfl) (c_remember I (fun M1 q1 I1 F1 => m_eq (m_rR I1.1.1 ⟨c2, ?_⟩)))
    have cr := I1.2.2.2.1.1
    have wf := I1.2.2.2.1.2
    obtain ⟨X3, X4, X5, X6, X10, X11, X12, X13⟩ := cr.2.2.2.1 j hj8
    obtain ⟨Y1, Y2, -⟩ := cr.2.2.2.2.1 j hj
    obtain ⟨a0, a1, a2, a3, a4, a5, a6, a7, a8⟩ := wf.2.2.1 j hj
    obtain ⟨r1, r2, -⟩ := wf.2.1
    obtain ⟨f1, f2, f3, f4, f5, f6, f7⟩ := cal_ok r1 r2 m1 m2 (show 1 ≤ s.1 0 - 1 by omega) (by omega) a7 (Nat.le_trans a3 hb)
    have C := cr.1
    have d0 : gD M1 (2 + 1) 3 = s.2.1 0 := (cr.2.2.1 0 (by decide)).2
    have n6 : gI M1 2 6 - (1 : Int32) = nI (s.1 0 - 1) := by
      rw [show gI M1 2 6 = nI (s.1 0) from cr.2.1.2.1]; exact pk_sub (b := 1) (by omega)
    have rr : gR M1 2 0 = 2 + 1 := C.2.1.1
    refine ⟨c2, m_rR rr ⟨kcP (zz := zz) car2 0 (by decide), ?_⟩⟩
    rw [n6, d0]
    refine s5_dec m 100 m2 (by decide) (by decide) _ r1 (s.1 0 - 1) (by omega) (m_rR rr ⟨kcP (zz := zz) car2 0 (by decide), ?_⟩)
    rw [n6, d0]
    refine ⟨f1, m_eq ⟨f2, m_eq ⟨f3, m_eq ⟨kch (zz := zz) car2 j hj8, m_eq ?_⟩⟩⟩⟩
    rw [show gD (sI M1 (2 + 5 + j) 5 0) (2 + 5 + j) 1 = s.2.1 (3 + 12 * j) from Y1]
    refine cF f7 ⟨f4, m_eq ⟨f5, m_eq (m_eq ?_)⟩⟩
    have o : OnC 2 M1 (calM M1 2 j (calV s.2.1 s.1 j m)) := onC_cal hj8 _
    rw [show gI M1 (2 + 5 + j) 5 = nI (s.1 (12 + 10 * j + 2)) from X5]
    exact H e3 _ q1 (I1.act (s' := (up s.1 (12 + 10 * j + 2) 0, up s.2.1 (4 + 12 * j) (calV s.2.1 s.1 j m), s.2.2)) o (cr_cal cr wf hj _) (wf_cal wf hb hj m m1 m2) (Nat.le_refl b))
  · obtain ⟨p, hp⟩ : ∃ p, s.1 (12 + 10 * j + 3) = p + 1 := ⟨s.1 (12 + 10 * j + 3) - 1, by omega⟩
    have := (w0.2.2.2.1 j hj e3).1
    have w2 := w0.n.2
    have np : ¬ nI p < 0 := nI_pos (by omega)
    refine cF ?_ (H0 e3)
    rw [hp, hp_s]
    intro e
    rw [e] at np
    exact np (by decide)
theorem z_runN {K : Int32 → Mem → Prop} (x : Int32) (hx : (40 : Int32) < x) (H : K (-2) M) : w_X5_run (448 + zz) M 1 x K := by
  by_cases h1 : x < 1
  · exact cT h1 H
  · exact cF h1 (cF (fun y => not_lt_le y hx) H)
theorem z_run {K : Int32 → Mem → Prop} (I : CI M b s Hs k z f q tl tx) (n : Nat) (n1 : 1 ≤ n) (n2 : n ≤ 40) (hb : b + n ≤ 20480) (H : ∀ M' q', CI M' (b + n) (itT s n) (psT Hs k s) (psK k) z f q' tl tx → K (nI (itS s.1 s.2.1 n).2.2) M') : w_X5_run (448 + zz) M 1 (nI n) K := by
  refine cF (fun e => ?_) (cT (nI_le (b := 40) n2 (by decide)) ⟨(k1 (zz := zz)), (k1 (zz := zz)), c_remember I (fun M1 q1 I1 F1 => c_steps I1 n n2 hb (fun M2 I2 F2 => H M2 q1 I2))⟩)
  have := (nI_ltI (b := 1) (by omega) (by decide)).mp e; omega
theorem z_addN {K : Int32 → Mem → Prop} (x y v : Int32) (hy : (99999 : Int32) < y) (H : K (-2) M) : w_X5_add (448 + zz) M 1 x y v K := by
  by_cases y1 : y < 0
  · exact cT y1 H
  · exact cF y1 (cT hy H)
theorem z_add {K : Int32 → Mem → Prop} (I : CI M b s Hs k z f q tl tx) (i j u : Nat) (i1 : i ≤ 1) (j2 : j ≤ 99999) (u1 : 1 ≤ u) (u2 : u ≤ 999) (H0 : s.1 2 = 60 → K (-3) M) (H : s.1 2 < 60 → ∀ M' q', CI M' b (adN s.1 i j u, s.2.1, adP s.1 s.2.2) (psT Hs k s) (psK k) z f q' tl tx → K (nI (s.1 2)) M') : w_X5_add (448 + zz) M 1 (nI i) (nI j) (nI u) K := by
  have w0 := I.2.2.2.1.2
  have cr0 := I.2.2.2.1.1
  have g60 := w0.n.2
  refine cF (nI_pos (by omega)) (cF (fun e => ?_) (cF (fun e => ?_) (cT (nI_le (b := 999) u2 (by decide)) ⟨(k1 (zz := zz)), m_rR I.1.1 ⟨kc0 (zz := zz) car2, ?_⟩⟩)))
  · have := (nI_ltI (a := 99999) (by decide) (by omega)).mp e; omega
  · have := (nI_ltI (b := 1) (by omega) (by decide)).mp e; omega
  rw [cr0.2.1.2.2.1]
  by_cases f60 : s.1 2 = 60
  · exact cF (fun a => by have := (nI_ltI (b := 60) (by omega) (by decide)).mp a; omega) (H0 f60)
  · refine cT (nI_lt (b := 60) (by omega) (by decide)) (c_remember I (fun M1 q1 I1 F1 => m_rR I1.1.1 ⟨kc0 (zz := zz) car2, ?_⟩))
    have cr := I1.2.2.2.1.1
    have wf := I1.2.2.2.1.2
    refine c_addPart cr wf (by omega) i j u i1 (fun M2 cr2 o2 => ?_)
    exact H (by omega) M2 q1 (I1.act (s' := (adN s.1 i j u, s.2.1, adP s.1 s.2.2)) o2 cr2 (wf_add wf (by omega) i j u i1 j2 u1 u2) (Nat.le_refl b))
theorem z_type {K : Int32 → Mem → Prop} (I : CI M b s Hs k z f q tl tx) (j : Nat) (hj : j < 65536) (ht : tl < 60) (H : ∀ M', CI M' b s Hs k z f q (tl + 1) (putT tx tl j) → K (nI (tl + 1)) M') : w_X5_type (448 + zz) M 1 (nI j) K := by
  obtain ⟨i1, i2, i3, i4, i5⟩ := I.1
  obtain ⟨t1, t2, t3⟩ := I.2.2.2.2.2.2
  refine ⟨(k1 (zz := zz)), m_rR i4 ⟨(k447 (zz := zz)), (k447 (zz := zz)), ?_⟩⟩
  rw [t2]
  refine cF (nI_pos (by omega)) (m_rR i5 (a_len (k448 (zz := zz)) (by decide) ?_))
  rw [a_ln (k448 (zz := zz))]
  refine cT (nI_lt (b := 60) (by omega) (by decide)) (m_rR i5 (m_wI 448 9 60 tl (k448 (zz := zz)) rfl (by omega) (by decide) (m_eq ?_)))
  rw [vn_char hj, gI_ne (r := 448) (Or.inl (by decide)), t2, nI_1, gI_eq]
  refine H _ (I.text (fun r hr k => ⟨by rw [gI_ne (Or.inl (by omega)), gI_ne (Or.inl (by omega))], rfl, rfl, rfl⟩) rfl ⟨by omega, gI_eq, fun i hi => ⟨?_, ?_⟩⟩)
  · by_cases e : i = tl
    · rw [e, show putT tx tl j tl = j from up_eq _ _ _]; exact hj
    · rw [show putT tx tl j i = tx i from up_ne e]; exact (t3 i hi).1
  · rw [gI_ne (Or.inl (by decide))]
    exact put_at (fun i hi => (t3 i hi).2) i hi
theorem z_clearText {K : Int32 → Mem → Prop} (I : CI M b s Hs k z f q tl tx) (H : ∀ M' v, CI M' b s Hs k z f q 0 tx → K v M') : w_X5_clearText (448 + zz) M 1 K := by
  obtain ⟨i1, i2, i3, i4, i5⟩ := I.1
  obtain ⟨t1, t2, t3⟩ := I.2.2.2.2.2.2
  refine ⟨(k1 (zz := zz)), m_rR i4 ⟨(k447 (zz := zz)), m_eq (m_rR i4 ⟨(k447 (zz := zz)), m_eq ?_⟩)⟩⟩
  exact H _ _ (I.text (fun r hr k => ⟨gI_ne (Or.inl (by omega)), rfl, rfl, rfl⟩) rfl ⟨by omega, gI_eq, fun i hi => ⟨(t3 i hi).1, by rw [gI_ne (Or.inl (by decide))]; exact (t3 i hi).2⟩⟩)
theorem z_undo0 {K : Int32 → Mem → Prop} (I : CI M b s Hs 0 z f q tl tx) (H : K (-5) M) : w_X5_undo (448 + zz) M 1 K := by
  refine ⟨(k1 (zz := zz)), m_eq ?_⟩
  rw [I.2.2.2.2.1.2.1]
  exact cT (by decide) H
theorem z_undo {K : Int32 → Mem → Prop} (I : CI M b s Hs (k + 1) z f q tl tx) (H : ∀ M', CI M' b (Hs k) Hs k z f q tl tx → K (nI k) M') : w_X5_undo (448 + zz) M 1 K := by
  obtain ⟨⟨i1, i2, i3, i4, i5⟩, sh, ⟨q1, q2⟩, ⟨c1, c2⟩, ⟨h1, h2, h3⟩, -⟩ := id I
  refine ⟨(k1 (zz := zz)), m_eq ?_⟩
  rw [h2, nI_pred]
  obtain ⟨x1, x2, x3, x4⟩ := q1 k (by omega)
  obtain ⟨a, w⟩ := h3 k (by omega)
  refine cF (nI_pos (by omega)) (m_rR i2 (a_len (k76 (zz := zz)) (by decide) ?_))
  rw [a_ln (k76 (zz := zz))]
  refine cT (nI_lt (b := 4) (by omega) (by decide)) (m_rR i1 (m_rR i2 (a_idx 76 12 4 k _ (k76 (zz := zz)) (by decide) rfl (by omega) (by decide) x1 ⟨kc0 (zz := zz) car2, c_copyOf a.1 (sh 2 car2) (Car.ap car2 x2 (fun e => x3 e.symm)) (cr_pipe a w) (m_eq ?_)⟩)))
  rw [gI_eq]
  have o : OnC 2 M (cyM M 2 (q k)) := onC_cy
  have cn := cr_copy a (sh 2 car2) (Car.ap car2 x2 (fun e => x3 e.symm)) w.n.1 w.n.2
  exact H _ ((I.act (s' := Hs k) o cn w (Nat.le_refl b)).hist (k' := k) (by omega))
theorem z_keep {K : Int32 → Mem → Prop} (I : CI M b s Hs k z f q tl tx) (H : ∀ M', CI M' b s Hs k s true q tl tx → K (nI (s.1 2)) M') : w_X5_keep (448 + zz) M 1 K := by
  obtain ⟨⟨i1, i2, i3, i4, i5⟩, sh, ⟨q1, q2⟩, ⟨c1, c2⟩, -⟩ := id I
  refine ⟨(k1 (zz := zz)), m_rR i3 (m_rR i1 ⟨kc0 (zz := zz) car373, c_copyOf c1.1 (sh 373 car373) (Car.ap car373 car2 (by decide)) (cr_pipe c1 c2) (m_eq ?_)⟩)⟩
  have o : OnC 373 M (cyM M 373 2) := onC_cy
  have cn := cr_copy c1 (sh 373 car373) (Car.ap car373 car2 (by decide)) c2.n.1 c2.n.2
  have g0 : gR (sI (cyM M 373 2) 1 5 1) 1 0 = 2 := (o.gR 1 0).trans i1
  have g7 : gI (sI (cyM M 373 2) 1 5 1) 2 7 = nI (s.1 2) := by
    rw [gI_ne (Or.inl (by decide)), o.1 2 7 (by decide)]
    exact c1.2.1.2.2.1
  refine m_rR g0 ⟨kc0 (zz := zz) car2, ?_⟩
  rw [g7]
  exact H _ (I.kept o cn)
theorem z_restore0 {K : Int32 → Mem → Prop} (I : CI M b s Hs k z false q tl tx) (H : K (-5) M) : w_X5_restore (448 + zz) M 1 K := by
  refine ⟨(k1 (zz := zz)), ?_⟩
  rw [I.2.2.2.2.2.1.1]
  exact cP rfl H
theorem z_restore {K : Int32 → Mem → Prop} (I : CI M b s Hs k z true q tl tx) (H : ∀ M' q', CI M' b z (psT Hs k s) (psK k) z true q' tl tx → K (nI (z.1 2)) M') : w_X5_restore (448 + zz) M 1 K := by
  refine ⟨(k1 (zz := zz)), ?_⟩
  rw [I.2.2.2.2.2.1.1]
  refine cN (by decide) (c_remember I (fun M1 q1 I1 F1 => ?_))
  obtain ⟨⟨i1, i2, i3, i4, i5⟩, sh, -, ⟨c1, c2⟩, -, ⟨-, f2⟩, -⟩ := id I1
  obtain ⟨a, w⟩ := f2 rfl
  refine m_rR i1 (m_rR i3 ⟨kc0 (zz := zz) car2, c_copyOf a.1 (sh 2 car2) (Car.ap car2 car373 (by decide)) (cr_pipe a w) ?_⟩)
  have o : OnC 2 M1 (cyM M1 2 373) := onC_cy
  have cn := cr_copy a (sh 2 car2) (Car.ap car2 car373 (by decide)) w.n.1 w.n.2
  refine m_rR ((o.gR 1 0).trans i1) ⟨kc0 (zz := zz) car2, ?_⟩
  rw [show gI (cyM M1 2 373) 2 7 = nI (z.1 2) from cn.2.1.2.2.1]
  exact H _ q1 (I1.act (s' := z) o cn w (Nat.le_refl b))
theorem z_setPN {K : Int32 → Mem → Prop} (I : CI M b s Hs k z f q tl tx) (i : Nat) (hi : i < 3) (y : Int64) (hy : y < lN (loB i) ∨ lN (hiB i) < y) (H : K (-2) M) : w_X5_setPressure (448 + zz) M 1 (nI i) y K := by
  have cr0 := I.2.2.2.1.1
  obtain ⟨l0, l1⟩ := sh_rng cr0.1 i hi
  refine ⟨(k1 (zz := zz)), m_rR I.1.1 ⟨kc0 (zz := zz) car2, c_pressY cr0.1 i hi (cF (by omega) ⟨kcP (zz := zz) car2 i hi, ?_⟩)⟩⟩
  rw [l0, l1]
  by_cases a1 : y < lN (loB i)
  · exact cT ((lg_cmp_lt _ _).mpr a1) H
  · refine cF (fun e => a1 ((lg_cmp_lt _ _).mp e)) (cF (fun e => ?_) H)
    have e := (lg_cmp_le _ _).mp e
    have o := hy.resolve_left a1
    rw [Int64.lt_iff_toInt_lt] at o
    rw [Int64.le_iff_toInt_le] at e
    omega
theorem z_setP {K : Int32 → Mem → Prop} (I : CI M b s Hs k z f q tl tx) (i : Nat) (hi : i < 3) (u : UInt64) (h1 : loB i ≤ u.toNat) (h2 : u.toNat ≤ hiB i) (H0 : s.2.1 i = u → K (-5) M) (H : s.2.1 i ≠ u → ∀ M' q', CI M' b (s.1, up s.2.1 i u, s.2.2) (psT Hs k s) (psK k) z f q' tl tx → K 1 M') : w_X5_setPressure (448 + zz) M 1 (nI i) u.toInt64 K := by
  have cr0 := I.2.2.2.1.1
  have w0 := I.2.2.2.1.2
  obtain ⟨l0, l1⟩ := sh_rng cr0.1 i hi
  have lo63 : loB i < 2 ^ 62 := by unfold loB; split <;> decide
  have hi63 : hiB i ≤ 4696837146684686336 := by unfold hiB; split <;> decide
  refine ⟨(k1 (zz := zz)), m_rR I.1.1 ⟨kc0 (zz := zz) car2, c_pressY cr0.1 i hi (cF (by omega) ⟨kcP (zz := zz) car2 i hi, ?_⟩)⟩⟩
  rw [l0, l1]
  obtain ⟨n, hn⟩ : ∃ n, n = u.toNat := ⟨_, rfl⟩
  have n63 : n < 2 ^ 63 := by omega
  have ul : u.toInt64 = lN n := by
    rw [← lN_uu n]
    congr 1
    exact UInt64.toNat_inj.mp (by rw [lN_u n63, hn])
  rw [← hn] at h1 h2
  rw [ul]
  refine cF (fun e => ?_) (cT ((lg_cmp_le _ _).mpr ((pk_lLE n63 (by omega)).mpr h2)) ?_)
  · have := (pk_lLT n63 (by omega)).mp ((lg_cmp_lt _ _).mp e); omega
  have Di := (cr0.2.2.1 i hi).1
  have same : gL M (2 + 1 + i) 2 = lN n ↔ s.2.1 i = u := by
    rw [Di, ← ul]
    refine ⟨fun e => ?_, fun e => by rw [e]⟩
    have := congrArg Int64.toUInt64 e
    simpa using this
  by_cases e : s.2.1 i = u
  · exact cP ((lg_cmp_eq _ _).mpr (same.mpr e).symm) (H0 e)
  · refine cN (fun y => e (same.mp ((lg_cmp_eq _ _).mp y).symm)) (c_remember I (fun M1 q1 I1 F1 => ⟨kcP (zz := zz) car2 i hi, m_eq ?_⟩))
    rw [← ul]
    refine number_ok (by omega) (m_eq ?_)
    have cr := I1.2.2.2.1.1
    have wf := I1.2.2.2.1.2
    have o : OnC 2 M1 (prX M1 2 i u) := onC_prX i hi u
    refine H e (prX M1 2 i u) q1 (I1.act (s' := (s.1, up s.2.1 i u, s.2.2)) o (cr_prX cr wf.n.1 i hi u) (wf_prX wf i hi u (fun i0 => ?_) (by omega)) (Nat.le_refl b))
    subst i0
    unfold PZ
    rw [← hn]
    exact ⟨h2, h1⟩
