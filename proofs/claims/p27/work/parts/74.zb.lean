/-! p27, 5: perform; what is told -/
variable {zz : Nat}
variable {M M' A : Mem} {b b' c h p k k' tl tl' : Nat} {s s' z z' : S3} {Hs : Nat → S3} {f f' : Bool} {q tx tx' : Nat → Nat} {N N' P : Nat → Nat} {D D' : Nat → UInt64}
theorem z_stop {K : Int32 → Mem → Prop} (I : CI M b s Hs k z f q tl tx) (H0 : s.1 11 = 0 → K (-5) M) (H : s.1 11 ≠ 0 → ∀ M' q', CI M' b (stpN s.1, s.2.1, s.2.2) (psT Hs k s) (psK k) z f q' tl tx → K (nI (s.1 11)) M') : w_X5_stopWaiting (448 + zz) M 1 K := by
  have w0 := I.2.2.2.1.2
  have cr0 := I.2.2.2.1.1
  have hq := cr_cS cr0 w0 0 (by decide)
  have L0 := w0.2.2.2.2.2.2.2.1.1
  have WCk := w0.2.2.2.2.2.2.2.2.1
  refine ⟨(k1 (zz := zz)), m_rR I.1.1 ⟨kc0 (zz := zz) car2, c_partsIn cr0.1 (nI 0) ?_⟩⟩
  rw [hq, WCk]
  by_cases e : s.1 11 = 0
  · exact cP (by rw [e]; rfl) (H0 e)
  · have n0 : ¬ nI (s.1 11) = 0 := nI_ne0 (by omega) (by omega)
    refine cN n0 (c_remember I (fun M1 q1 I1 F1 => m_rR I1.1.1 ⟨kc0 (zz := zz) car2, c_rejectWaiting I1.2.2.2.1.1.1 ?_⟩))
    have cr := I1.2.2.2.1.1
    have wf := I1.2.2.2.1.2
    obtain ⟨u1, u2⟩ := cr_stop cr wf
    exact H e _ q1 (I1.act (s' := (stpN s.1, s.2.1, s.2.2)) u2 u1 (wf_stop wf) (Nat.le_refl b))
theorem z_clear {K : Int32 → Mem → Prop} (I : CI M b s Hs k z f q tl tx) (H0 : cH s.1 (s.1 0) = 0 → K (-5) M) (H : cH s.1 (s.1 0) ≠ 0 → ∀ M' q', CI M' b (clN s.1 (s.1 0) (s.1 0), s.2.1, clP s.1 s.2.2 (s.1 0) (s.1 0)) (psT Hs k s) (psK k) z f q' tl tx → K (nI (cH s.1 (s.1 0))) M') : w_X5_clearHeads (448 + zz) M 1 K := by
  have w0 := I.2.2.2.1.2
  have cr0 := I.2.2.2.1.1
  have hq := cr_cS cr0 w0 1 (by decide)
  have WCk := w0.2.2.2.2.2.2.2.2.2.1
  have cle : cH s.1 (s.1 0) ≤ 60 := by
    rw [← WCk, cS_cnt]
    exact Nat.le_trans (cnt_le _ _ _) w0.n.2
  refine ⟨(k1 (zz := zz)), m_rR I.1.1 ⟨kc0 (zz := zz) car2, c_partsIn cr0.1 (nI 1) ?_⟩⟩
  rw [hq, WCk]
  by_cases e : cH s.1 (s.1 0) = 0
  · exact cP (by rw [e]; rfl) (H0 e)
  · have n0 : ¬ nI (cH s.1 (s.1 0)) = 0 := nI_ne0 (by omega) (by omega)
    refine cN n0 (c_remember I (fun M1 q1 I1 F1 => m_rR I1.1.1 ⟨kc0 (zz := zz) car2, ?_⟩))
    have cr := I1.2.2.2.1.1
    have wf := I1.2.2.2.1.2
    refine c_takeFromHeads cr wf (fun M2 cr2 o2 => ?_)
    exact H e _ q1 (I1.act (s' := (clN s.1 (s.1 0) (s.1 0), s.2.1, clP s.1 s.2.2 (s.1 0) (s.1 0))) o2 cr2 (wf_cl wf _ (Nat.le_refl _)) (Nat.le_refl b))
theorem wd_ne {i j : Nat} (hi : i < 4) (hj : j < 4) (W : WDt i tl tx) (V : WDt j tl tx) : i = j := by
  rcases (show i = 0 ∨ i = 1 ∨ i = 2 ∨ i = 3 by omega) with rfl | rfl | rfl | rfl <;> rcases (show j = 0 ∨ j = 1 ∨ j = 2 ∨ j = 3 by omega) with rfl | rfl | rfl | rfl <;> first | rfl | (exfalso; first | (have a := wd0.mp W) | (have a := wd1.mp W) | (have a := wd2.mp W) | (have a := wd3.mp W)) <;> first | (have c := wd0.mp V; omega) | (have c := wd1.mp V; omega) | (have c := wd2.mp V; omega) | (have c := wd3.mp V; omega)
theorem z_performN {K : Int32 → Mem → Prop} (I : CI M b s Hs k z f q tl tx) (n : ∀ i, i < 4 → ¬ WDt i tl tx) (H : K (-2) M) : w_X5_perform (448 + zz) M 1 K := by
  have T := I.txx
  have i4 := I.1.2.2.2.1
  exact ⟨(k1 (zz := zz)), m_rR i4 ⟨(k447 (zz := zz)), c_reads T 0 (by decide) (fun W => absurd W (n 0 (by decide))) (fun _ => cT rfl (m_rR i4 ⟨(k447 (zz := zz)), c_reads T 1 (by decide) (fun W => absurd W (n 1 (by decide))) (fun _ => cT rfl (m_rR i4 ⟨(k447 (zz := zz)), c_reads T 2 (by decide) (fun W => absurd W (n 2 (by decide))) (fun _ => cT rfl (m_rR i4 ⟨(k447 (zz := zz)), c_reads T 3 (by decide) (fun W => absurd W (n 3 (by decide))) (fun _ => cT rfl H)⟩))⟩))⟩))⟩⟩
theorem z_perf0 {K : Int32 → Mem → Prop} (I : CI M b s Hs k z f q tl tx) (W : WDt 0 tl tx) (hb : b + 1 ≤ 20480) (H : ∀ M' q', CI M' (b + 1) (itT s 1) (psT Hs k s) (psK k) z f q' tl tx → K (nI (itS s.1 s.2.1 1).2.2) M') : w_X5_perform (448 + zz) M 1 K := by
  have T := I.txx
  have i4 := I.1.2.2.2.1
  exact ⟨(k1 (zz := zz)), m_rR i4 ⟨(k447 (zz := zz)), c_reads T 0 (by decide) (fun _ => cF (by decide) ⟨(k1 (zz := zz)), c_remember I (fun M1 q1 I1 F1 => c_steps I1 1 (by decide) hb (fun M2 I2 F2 => H M2 q1 I2))⟩) (fun N0 => absurd W N0)⟩⟩
theorem z_perf1 {K : Int32 → Mem → Prop} (I : CI M b s Hs k z f q tl tx) (W : WDt 1 tl tx) (hb : b + s.1 0 ≤ 20480) (H : ∀ M' q', CI M' (b + s.1 0) (itT s (s.1 0)) (psT Hs k s) (psK k) z f q' tl tx → K (nI (itS s.1 s.2.1 (s.1 0)).2.2) M') : w_X5_perform (448 + zz) M 1 K := by
  have T := I.txx
  have i4 := I.1.2.2.2.1
  have g8 := I.2.2.2.1.2.n.1
  refine ⟨(k1 (zz := zz)), m_rR i4 ⟨(k447 (zz := zz)), c_reads T 0 (by decide) (fun V => absurd (wd_ne (by decide) (by decide) W V) (by decide)) (fun _ => cT rfl (m_rR i4 ⟨(k447 (zz := zz)), c_reads T 1 (by decide) (fun _ => cF (by decide) (m_rR I.1.1 ⟨kc0 (zz := zz) car2, ?_⟩)) (fun N0 => absurd W N0)⟩))⟩⟩
  rw [I.2.2.2.1.1.2.1.2.1]
  exact ⟨(k1 (zz := zz)), c_remember I (fun M1 q1 I1 F1 => c_steps I1 (s.1 0) (by omega) hb (fun M2 I2 F2 => H M2 q1 I2))⟩
theorem z_perf2 {K : Int32 → Mem → Prop} (I : CI M b s Hs k z f q tl tx) (W : WDt 2 tl tx) (H0 : s.1 11 = 0 → K (-5) M) (H : s.1 11 ≠ 0 → ∀ M' q', CI M' b (stpN s.1, s.2.1, s.2.2) (psT Hs k s) (psK k) z f q' tl tx → K (nI (s.1 11)) M') : w_X5_perform (448 + zz) M 1 K := by
  have T := I.txx
  have i4 := I.1.2.2.2.1
  exact ⟨(k1 (zz := zz)), m_rR i4 ⟨(k447 (zz := zz)), c_reads T 0 (by decide) (fun V => absurd (wd_ne (by decide) (by decide) W V) (by decide)) (fun _ => cT rfl (m_rR i4 ⟨(k447 (zz := zz)), c_reads T 1 (by decide) (fun V => absurd (wd_ne (by decide) (by decide) W V) (by decide)) (fun _ => cT rfl (m_rR i4 ⟨(k447 (zz := zz)), c_reads T 2 (by decide) (fun _ => cF (by decide) (z_stop I H0 H)) (fun N0 => absurd W N0)⟩))⟩))⟩⟩
theorem z_perf3 {K : Int32 → Mem → Prop} (I : CI M b s Hs k z f q tl tx) (W : WDt 3 tl tx) (H0 : cH s.1 (s.1 0) = 0 → K (-5) M) (H : cH s.1 (s.1 0) ≠ 0 → ∀ M' q', CI M' b (clN s.1 (s.1 0) (s.1 0), s.2.1, clP s.1 s.2.2 (s.1 0) (s.1 0)) (psT Hs k s) (psK k) z f q' tl tx → K (nI (cH s.1 (s.1 0))) M') : w_X5_perform (448 + zz) M 1 K := by
  have T := I.txx
  have i4 := I.1.2.2.2.1
  exact ⟨(k1 (zz := zz)), m_rR i4 ⟨(k447 (zz := zz)), c_reads T 0 (by decide) (fun V => absurd (wd_ne (by decide) (by decide) W V) (by decide)) (fun _ => cT rfl (m_rR i4 ⟨(k447 (zz := zz)), c_reads T 1 (by decide) (fun V => absurd (wd_ne (by decide) (by decide) W V) (by decide)) (fun _ => cT rfl (m_rR i4 ⟨(k447 (zz := zz)), c_reads T 2 (by decide) (fun V => absurd (wd_ne (by decide) (by decide) W V) (by decide)) (fun _ => cT rfl (m_rR i4 ⟨(k447 (zz := zz)), c_reads T 3 (by decide) (fun _ => cF (by decide) (z_clear I H0 H)) (fun N0 => absurd W N0)⟩))⟩))⟩))⟩⟩
/-- what is told of a head, a part, by numbers -/
def hT (s : S3) (j k : Nat) : Int32 := if k = 8 then nI ((j + s.1 0 - stA s.1) % s.1 0) else if k = 3 then hp (s.1 (12 + 10 * j + 3)) else nI (s.1 (12 + 10 * j + k))
def pT (s : S3) (j k : Nat) : Int32 := if k = 8 then (if s.1 (92 + 8 * j + 3) = 0 then nI (s.2.2 j) else -5) else if k = 7 then cp (s.1 (92 + 8 * j + 7)) else if k = 6 then hp (s.1 (92 + 8 * j + 6)) else nI (s.1 (92 + 8 * j + k))
def cT_ (s : S3) (k : Nat) : Nat := if k = 0 then s.1 0 else if k = 1 then s.1 1 else if k = 2 then s.1 2 else if k < 7 then cS s.1 (k - 3) (s.1 2) else if k = 7 then s.1 4 else if k = 8 then s.1 5 else if k = 9 then s.1 3 else s.1 (k - 4)
theorem z_headN {K : Int32 → Mem → Prop} (I : CI M b s Hs k z f q tl tx) (x y : Int32) (hx : x < 0 ∨ nI (s.1 0) ≤ x) (H : K (-1) M) : w_X5_head (448 + zz) M 1 x y K := by
  have cr0 := I.2.2.2.1.1
  exact ⟨(k1 (zz := zz)), m_rR I.1.1 ⟨kc0 (zz := zz) car2, c_headN cr0.1 cr0.2.1.2.1 hx (cP rfl H)⟩⟩
theorem z_head {K : Int32 → Mem → Prop} (I : CI M b s Hs k z f q tl tx) (hb : b ≤ 20480) (j : Nat) (hj : j < s.1 0) (i : Nat) (hi : i < 9) (H : K (hT s j i) M) : w_X5_head (448 + zz) M 1 (nI j) (nI i) K := by
  have cr0 := I.2.2.2.1.1
  have w0 := I.2.2.2.1.2
  have c2 := kc0 (zz := zz) car2
  have g8 := w0.n.1
  have g2 := w0.1.1
  have hj8 : j < 8 := by omega
  obtain ⟨X3, X4, X5, X6, X10, X11, X12, X13⟩ := cr0.2.2.2.1 j hj8
  have kh := kch (zz := zz) car2 j hj8
  refine ⟨(k1 (zz := zz)), m_rR I.1.1 ⟨c2, c_headY cr0.1 cr0.2.1.2.1 g8 j hj (cN (by omega) ?_)⟩⟩
  rcases (show i = 0 ∨ i = 1 ∨ i = 2 ∨ i = 3 ∨ i = 4 ∨ i = 5 ∨ i = 6 ∨ i = 7 ∨ i = 8 by omega) with rfl | rfl | rfl | rfl | rfl | rfl | rfl | rfl | rfl
  · exact cT rfl ⟨kh, by rw [X3]; exact H⟩
  · exact cF (by decide) (cT rfl ⟨kh, by rw [X4]; exact H⟩)
  · exact cF (by decide) (cF (by decide) (cT rfl ⟨kh, by rw [X5]; exact H⟩))
  · exact cF (by decide) (cF (by decide) (cF (by decide) (cT rfl ⟨kh, by rw [X6]; exact H⟩)))
  · exact cF (by decide) (cF (by decide) (cF (by decide) (cF (by decide) (cT rfl ⟨kh, by rw [X10]; exact H⟩))))
  · exact cF (by decide) (cF (by decide) (cF (by decide) (cF (by decide) (cF (by decide) (cT rfl ⟨kh, by rw [X11]; exact H⟩)))))
  · exact cF (by decide) (cF (by decide) (cF (by decide) (cF (by decide) (cF (by decide) (cF (by decide) (cT rfl ⟨kh, by rw [X12]; exact H⟩))))))
  · exact cF (by decide) (cF (by decide) (cF (by decide) (cF (by decide) (cF (by decide) (cF (by decide) (cF (by decide) (cT rfl ⟨kh, by rw [X13]; exact H⟩)))))))
  · have b1 := w0.1.2.2.1
    have sa : s.1 1 % s.1 0 < s.1 0 := Nat.mod_lt _ (by omega)
    have x0 := (cr0.1.2.2.1 j hj8).2
    obtain ⟨s1, s2, s3, s4, s5⟩ := cr0.2.1
    refine cF (by decide) (cF (by decide) (cF (by decide) (cF (by decide) (cF (by decide) (cF (by decide) (cF (by decide) (cF (by decide) (cT rfl (m_rR I.1.1 ⟨c2, kh, c2, m_eq ?_⟩)))))))))
    rw [x0, s5, s2]
    have H : K (nI ((j + s.1 0 - s.1 1 % s.1 0) % s.1 0)) M := H
    rw [mod_back hj sa] at H
    by_cases ej : s.1 1 % s.1 0 ≤ j
    · rw [if_pos ej] at H
      rw [pk_sub ej]
      exact cT (nI_pos' (by omega)) H
    · rw [if_neg ej] at H
      have ng : nI j - nI (s.1 1 % s.1 0) < 0 := pk_sneg (by omega) (by omega)
      refine cF (fun y => not_lt_le y ng) ?_
      have ea : nI j - nI (s.1 1 % s.1 0) + nI (s.1 0) = nI (j + s.1 0 - s.1 1 % s.1 0) := by
        have t : nI (j + s.1 0 - s.1 1 % s.1 0) = nI (j + s.1 0) - nI (s.1 1 % s.1 0) := (pk_sub (by omega)).symm
        rw [t, ← nI_add]
        simp only [Int32.sub_eq_add_neg, Int32.add_assoc]
        rw [Int32.add_comm (-nI (s.1 1 % s.1 0)) (nI (s.1 0))]
      rw [ea]
      exact H
theorem z_partN {K : Int32 → Mem → Prop} (I : CI M b s Hs k z f q tl tx) (x y : Int32) (hx : x < 0 ∨ nI (s.1 2) ≤ x) (H : K (-1) M) : w_X5_part (448 + zz) M 1 x y K := by
  have cr0 := I.2.2.2.1.1
  exact ⟨(k1 (zz := zz)), m_rR I.1.1 ⟨kc0 (zz := zz) car2, c_partN cr0.1 cr0.2.1.2.2.1 hx (cP rfl H)⟩⟩
theorem z_part {K : Int32 → Mem → Prop} (I : CI M b s Hs k z f q tl tx) (j : Nat) (hj : j < s.1 2) (i : Nat) (hi : i < 9) (H : K (pT s j i) M) : w_X5_part (448 + zz) M 1 (nI j) (nI i) K := by
  have cr0 := I.2.2.2.1.1
  have w0 := I.2.2.2.1.2
  have c2 := kc0 (zz := zz) car2
  have g60 := w0.n.2
  have hj8 : j < 60 := by omega
  obtain ⟨z1, z2, z3, z4, z5, z6, z7, z8, z10, -⟩ := cr0.2.2.2.2.2.1 j hj
  obtain ⟨q0, q1, q2, q3, q4, q5, q6, q7, q8, q9⟩ := w0.2.2.2.2.2.2.1 j hj
  have kh := kcp (zz := zz) car2 j hj8
  refine ⟨(k1 (zz := zz)), m_rR I.1.1 ⟨c2, c_partY cr0.1 cr0.2.1.2.2.1 g60 j hj (cN (by omega) ?_)⟩⟩
  rcases (show i = 0 ∨ i = 1 ∨ i = 2 ∨ i = 3 ∨ i = 4 ∨ i = 5 ∨ i = 6 ∨ i = 7 ∨ i = 8 by omega) with rfl | rfl | rfl | rfl | rfl | rfl | rfl | rfl | rfl
  · refine cT rfl ⟨kh, ?_⟩
    have r : K (nI (s.1 (92 + 8 * j + 0))) M := H
    rw [z1]
    rcases (show s.1 (92 + 8 * j + 0) = 0 ∨ s.1 (92 + 8 * j + 0) = 1 by omega) with e | e <;> rw [e] at r ⊢
    · exact cT rfl r
    · exact cF (by decide) r
  · exact cF (by decide) (cT rfl ⟨kh, by rw [z2]; exact H⟩)
  · exact cF (by decide) (cF (by decide) (cT rfl ⟨kh, by rw [z3]; exact H⟩))
  · exact cF (by decide) (cF (by decide) (cF (by decide) (cT rfl ⟨kh, by rw [z4]; exact H⟩)))
  · exact cF (by decide) (cF (by decide) (cF (by decide) (cF (by decide) (cT rfl ⟨kh, by rw [z6]; exact H⟩))))
  · exact cF (by decide) (cF (by decide) (cF (by decide) (cF (by decide) (cF (by decide) (cT rfl ⟨kh, by rw [z7]; exact H⟩)))))
  · exact cF (by decide) (cF (by decide) (cF (by decide) (cF (by decide) (cF (by decide) (cF (by decide) (cT rfl ⟨kh, by rw [z8]; exact H⟩))))))
  · exact cF (by decide) (cF (by decide) (cF (by decide) (cF (by decide) (cF (by decide) (cF (by decide) (cF (by decide) (cT rfl ⟨kh, by rw [z10]; exact H⟩)))))))
  · exact cF (by decide) (cF (by decide) (cF (by decide) (cF (by decide) (cF (by decide) (cF (by decide) (cF (by decide) (cF (by decide) (cT rfl ⟨kh, by rw [z5]; exact H⟩))))))))
