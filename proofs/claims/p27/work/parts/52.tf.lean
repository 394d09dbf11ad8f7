/-! THE PURE PART, 30: what the text reads; stop -/
variable {zz : Nat}
variable {M M' A : Mem} {b b' c h k k' tl tl' : Nat} {s s' z z' : S3} {Hs : Nat → S3} {f f' : Bool} {q tx tx' : Nat → Nat} {N N' P : Nat → Nat} {D D' : Nat → UInt64}
def TX (M : Mem) (tl : Nat) (tx : Nat → Nat) : Prop := gR M 447 0 = 448 ∧ tl ≤ 60 ∧ gI M 447 1 = nI tl ∧ ∀ j, j < 60 → tx j < 65536 ∧ gI M 448 j = nI (tx j)
def TR (M : Mem) (tl : Nat) (tx : Nat → Nat) : Prop := gR M 449 9 = 456 ∧ gI M 449 8 = nI tl ∧ ∀ j, j < 60 → gI M 456 j = nI (tx j)
theorem CI.txx (I : CI M b s Hs k z f q tl tx) : TX M tl tx := ⟨I.1.2.2.2.2, I.2.2.2.2.2.2⟩
theorem c_signY {K : Int32 → Mem → Prop} (T : TX M tl tx) (i : Nat) (hi : i < tl) (H : K (nI (tx i)) M) : w_X4_signAt (448 + zz) M 447 (nI i) K := by
  obtain ⟨t0, t1, t2, t3⟩ := T
  refine cF (nI_pos (by omega)) ⟨(k447 (zz := zz)), ?_⟩
  rw [t2]
  refine cF (nI_ge hi (by omega)) (m_rR t0 (a_len (k448 (zz := zz)) (by decide) ?_))
  rw [a_ln (k448 (zz := zz))]
  refine cF (nI_ge (by omega) (by decide)) (m_rR t0 (m_rI 448 9 60 i (k448 (zz := zz)) rfl (by omega) (by decide) ?_))
  rw [(t3 i (by omega)).2]; exact H
theorem c_signN {K : Int32 → Mem → Prop} (T : TX M tl tx) (i : Nat) (hi : tl ≤ i) (h31 : i < 2 ^ 31) (H : K (-1) M) : w_X4_signAt (448 + zz) M 447 (nI i) K := by
  obtain ⟨t0, t1, t2, t3⟩ := T
  refine cF (nI_pos (by omega)) ⟨(k447 (zz := zz)), ?_⟩
  rw [t2]
  exact cT (nI_le hi h31) H
def chN (p i : Nat) : Nat := ((bytS.getD p []).getD i 0).toInt.toNat
def lnN (p : Nat) : Nat := lenS.getD p 0
theorem ln_le : ∀ p, p < 4 → lnN p ≤ 5 ∧ 4 ≤ lnN p ∧ nI (lenS.getD p 0) >>> (0 &&& 31) = nI (lnN p) ∧ ∀ i, i < lnN p → (Int32.toUInt32 (((bytS.getD p []).getD i 0) &&& (255 : Int32)) % 65536).toInt32 = nI (chN p i) ∧ chN p i < 128 := by decide +kernel
theorem c_length {K : Int32 → Mem → Prop} (p : Nat) (hp : p < 4) (H : K (nI (lnN p)) M) : w_J0_length_8abf5 (448 + zz) M p K := by
  refine ⟨hp, hp, ?_⟩
  show K (nI (lenS.getD p 0) >>> (0 &&& 31)) M
  rw [(ln_le p hp).2.2.1]; exact H
theorem c_char {K : Int32 → Mem → Prop} (p i : Nat) (hp : p < 4) (hi : i < lnN p) (H : K (nI (chN p i)) M) : w_J0_charAt_5068e (448 + zz) M p (nI i) K := by
  obtain ⟨l1, l2, l3, l4⟩ := ln_le p hp
  obtain ⟨e, c1⟩ := l4 i hi
  have nc := (pk_charN (q := chN p i) (by omega)).1
  have hl : i < lenS.getD p 0 := hi
  have hl2 : lenS.getD p 0 < 2 ^ 31 := Nat.lt_of_le_of_lt l1 (by decide)
  refine ⟨hp, hp, cF (by decide) ⟨hp, fun u hu => ⟨hu, cF (nI_pos (by omega)) (cT (nI_lt hl hl2) ⟨vp_in_nI hl hl2, ?_⟩)⟩⟩⟩
  rw [nI_clamp (by omega), e]
  exact ⟨nc, nc, H⟩
def WDt (p tl : Nat) (tx : Nat → Nat) : Prop := tl = lnN p ∧ ∀ j, j < lnN p → tx j = chN p j
theorem c_reads {K : Int32 → Mem → Prop} (T : TX M tl tx) (p : Nat) (hp : p < 4) (HT : WDt p tl tx → K 1 M) (HF : ¬ WDt p tl tx → K 0 M) : w_X4_reads (448 + zz) M 447 p K := by
  obtain ⟨l1, l2, l3, l4⟩ := ln_le p hp
  have t2 := T.2.2.1
  have t1 := T.2.1
  refine ⟨(k447 (zz := zz)), hp, c_length p hp ?_⟩
  rw [t2]
  by_cases e : tl = lnN p
  · refine cT (by rw [e]) ?_
    refine lpU (fun f' i (_ : Unit) => w_X4_reads_L15 (448 + zz) K f' M 447 p (nI i)) (fun i _ => ∀ j, j < i → tx j = chN p j) (lnN p) ?_ ?_ 4000 0 () (by omega) (by omega) (fun j hj => by omega)
    · intro f' _ I
      exact ⟨hp, c_length p hp (cT (Int32.le_refl _) (HT ⟨e, I⟩))⟩
    · intro f' i _ hi I ih
      have t3 := (T.2.2.2 i (by omega)).1
      refine ⟨hp, c_length p hp (cF (nI_ge hi (by omega)) ⟨(k447 (zz := zz)), c_signY T i (by omega) (c_char p i hp hi ?_)⟩)⟩
      have c1 := (l4 i hi).2
      by_cases g : tx i = chN p i
      · refine cT (by rw [g]) (m_eq ?_)
        rw [nI_1]
        refine ih () (fun j hj => ?_)
        by_cases ej : j = i
        · rw [ej]; exact g
        · exact I j (by omega)
      · exact cF (fun y => g ((nI_eq (by omega) (by omega)).mp y)) (HF (fun w => g (w.2 i hi)))
  · exact cF (fun y => e ((nI_eq (by omega) (by omega)).mp y)) (HF (fun w => e w.1))
theorem wd_iff (p x y u v : Nat) (hp : p < 3) (h : lnN p = 4 ∧ chN p 0 = x ∧ chN p 1 = y ∧ chN p 2 = u ∧ chN p 3 = v) : WDt p tl tx ↔ tl = 4 ∧ tx 0 = x ∧ tx 1 = y ∧ tx 2 = u ∧ tx 3 = v := by
  obtain ⟨l, rfl, rfl, rfl, rfl⟩ := h
  unfold WDt
  rw [l]
  refine ⟨fun g => ⟨g.1, g.2 0 (by decide), g.2 1 (by decide), g.2 2 (by decide), g.2 3 (by decide)⟩, fun g => ⟨g.1, fun j hj => ?_⟩⟩
  rcases (show j = 0 ∨ j = 1 ∨ j = 2 ∨ j = 3 by omega) with rfl | rfl | rfl | rfl
  · exact g.2.1
  · exact g.2.2.1
  · exact g.2.2.2.1
  · exact g.2.2.2.2
theorem wd3 : WDt 3 tl tx ↔ (tl = 5 ∧ tx 0 = 99 ∧ tx 1 = 108 ∧ tx 2 = 101 ∧ tx 3 = 97) ∧ tx 4 = 114 := by
  refine ⟨fun g => ⟨⟨g.1, g.2 0 (by decide), g.2 1 (by decide), g.2 2 (by decide), g.2 3 (by decide)⟩, g.2 4 (by decide)⟩, fun g => ⟨g.1.1, fun j hj => ?_⟩⟩
  have hj : j < 5 := hj
  rcases (show j = 0 ∨ j = 1 ∨ j = 2 ∨ j = 3 ∨ j = 4 by omega) with rfl | rfl | rfl | rfl | rfl
  · exact g.1.2.1
  · exact g.1.2.2.1
  · exact g.1.2.2.2.1
  · exact g.1.2.2.2.2
  · exact g.2
/-- those that wait are rejected -/
theorem spN_all (L : LN N P) (h60 : N 2 ≤ 60) : ∀ i, i ≤ N 11 → (∀ p, p < N 2 → spN N i (92 + 8 * p + 3) = (if N (92 + 8 * p + 3) = 0 ∧ P p < i then 3 else N (92 + 8 * p + 3)) ∧ spN N i (92 + 8 * p + 7) = (if N (92 + 8 * p + 3) = 0 ∧ P p < i then 5 else N (92 + 8 * p + 7))) ∧ spN N i 10 = N 10 + i ∧ ∀ x, x ≠ 10 → (∀ p, p < N 2 → x ≠ 92 + 8 * p + 3 ∧ x ≠ 92 + 8 * p + 7) → spN N i x = N x := by
  intro i
  induction i with
  | zero =>
    intro _
    refine ⟨fun p hp => ⟨?_, ?_⟩, rfl, fun x _ _ => rfl⟩
    · rw [if_neg (by omega)]; rfl
    · rw [if_neg (by omega)]; rfl
  | succ i ih =>
    intro hi
    obtain ⟨h1, h2, h3⟩ := ih (by omega)
    obtain ⟨l1, l2, l3⟩ := L.2.1 i (by omega)
    have e : spN N (i + 1) = inc (up (up (spN N i) (92 + 8 * N (572 + i) + 3) 3) (92 + 8 * N (572 + i) + 7) 5) (5 + 5) := rfl
    rw [e]
    refine ⟨fun p hp => ?_, ?_, fun x hx hn => ?_⟩
    · by_cases ep : p = N (572 + i)
      · rw [inc_ne (by omega), inc_ne (by omega), ep, up_ne (by omega), up_eq, up_eq, if_pos ⟨l2, by omega⟩, if_pos ⟨l2, by omega⟩]
        exact ⟨rfl, rfl⟩
      · rw [inc_ne (by omega), inc_ne (by omega), up_ne (by omega), up_ne (by omega), up_ne (by omega), up_ne (by omega)]
        obtain ⟨g1, g2⟩ := h1 p hp
        rw [g1, g2]
        have eq : (N (92 + 8 * p + 3) = 0 ∧ P p < i) ↔ (N (92 + 8 * p + 3) = 0 ∧ P p < i + 1) := by
          refine ⟨fun y => ⟨y.1, by omega⟩, fun y => ⟨y.1, ?_⟩⟩
          obtain ⟨m1, m2⟩ := L.2.2 p hp y.1
          by_cases z : P p = i
          · rw [z] at m2; exact absurd m2.symm ep
          · have := y.2; omega
        by_cases c : N (92 + 8 * p + 3) = 0 ∧ P p < i
        · rw [if_pos c, if_pos c, if_pos (eq.mp c), if_pos (eq.mp c)]; exact ⟨rfl, rfl⟩
        · rw [if_neg c, if_neg c, if_neg (fun y => c (eq.mpr y)), if_neg (fun y => c (eq.mpr y))]; exact ⟨rfl, rfl⟩
    · show inc _ 10 10 = _
      rw [inc_eq, up_ne (by omega), up_ne (by omega), h2]; omega
    · obtain ⟨n1, n2⟩ := hn _ l1
      rw [inc_ne hx, up_ne n2, up_ne n1]
      exact h3 x hx hn
def stpN (N : Nat → Nat) : Nat → Nat := up (spN N (N 11)) 11 0
theorem stp_all (L : LN N P) (h60 : N 2 ≤ 60) : (∀ p, p < N 2 → stpN N (92 + 8 * p + 3) = (if N (92 + 8 * p + 3) = 0 then 3 else N (92 + 8 * p + 3)) ∧ stpN N (92 + 8 * p + 7) = (if N (92 + 8 * p + 3) = 0 then 5 else N (92 + 8 * p + 7))) ∧ stpN N 10 = N 10 + N 11 ∧ stpN N 11 = 0 ∧ ∀ x, x ≠ 10 → x ≠ 11 → (∀ p, p < N 2 → x ≠ 92 + 8 * p + 3 ∧ x ≠ 92 + 8 * p + 7) → stpN N x = N x := by
  obtain ⟨h1, h2, h3⟩ := spN_all L h60 (N 11) (Nat.le_refl _)
  unfold stpN
  refine ⟨fun p hp => ?_, by rw [up_ne (by decide)]; exact h2, up_eq _ _ _, fun x x1 x2 hx => by rw [up_ne x2]; exact h3 x x1 hx⟩
  obtain ⟨g1, g2⟩ := h1 p hp
  rw [up_ne (by omega), up_ne (by omega), g1, g2]
  have eq : (N (92 + 8 * p + 3) = 0 ∧ P p < N 11) ↔ N (92 + 8 * p + 3) = 0 := ⟨fun y => y.1, fun y => ⟨y, (L.2.2 p hp y).1⟩⟩
  by_cases c : N (92 + 8 * p + 3) = 0
  · rw [if_pos (eq.mpr c), if_pos (eq.mpr c), if_pos c, if_pos c]; exact ⟨rfl, rfl⟩
  · rw [if_neg (fun y => c (eq.mp y)), if_neg (fun y => c (eq.mp y)), if_neg c, if_neg c]; exact ⟨rfl, rfl⟩
theorem cnt_stop (st ca : Nat → Nat) (e : Nat) : ∀ n, (∀ q, q < n → st q = 0 → ca q = 0) → 1 ≤ e → cnt (fun q => if st q = 0 then 5 else ca q) e n = cnt ca e n + (if e = 5 then cnt st 0 n else 0) := by
  intro n
  induction n with
  | zero => intro _ _; unfold cnt; split <;> rfl
  | succ n ih =>
    intro h he
    have := ih (fun q hq => h q (by omega)) he
    have hn := h n (by omega)
    unfold cnt
    rw [this]
    by_cases z : st n = 0
    · have c0 := hn z
      rw [if_pos z, c0]
      by_cases e5 : e = 5
      · rw [if_pos e5, if_pos e5, if_pos e5.symm, if_neg (by omega), if_pos z]; omega
      · rw [if_neg e5, if_neg e5, if_neg (fun y => e5 y.symm), if_neg (by omega)]
    · rw [if_neg z, if_neg z]
      split <;> omega
theorem cnt_stop1 (st : Nat → Nat) : ∀ n, cnt (fun q => if st q = 0 then 3 else st q) 1 n = cnt st 1 n ∧ cnt (fun q => if st q = 0 then 3 else st q) 0 n = 0 := by
  intro n
  induction n with
  | zero => exact ⟨rfl, rfl⟩
  | succ n ih =>
    unfold cnt
    rw [ih.1, ih.2]
    by_cases z : st n = 0
    · rw [if_pos z, if_neg (by omega), if_neg (by omega), if_neg (by omega)]; exact ⟨rfl, rfl⟩
    · rw [if_neg z, if_neg z]; exact ⟨rfl, rfl⟩
theorem wf_stop (w : WF N D P b) : WF (stpN N) D P b := by
  have h60 := w.1.2.2.2.1
  obtain ⟨⟨g0, g8, g1, g2, g31, g3, g4, g5⟩, r, wh, wo, wz, wd, wq, L, ⟨k0, k1, k2, k3, k4⟩⟩ := w
  obtain ⟨a1, a2, a3, a4⟩ := stp_all L h60
  obtain ⟨F, hF⟩ : ∃ F, F = stpN N := ⟨_, rfl⟩
  rw [← hF] at a1 a2 a3 a4 ⊢
  have f : ∀ j, j ≠ 10 → j ≠ 11 → j < 92 → F j = N j := fun j h1 h2 h3 => a4 j h1 h2 (fun p hp => by omega)
  have fp : ∀ p k, p < N 2 → k < 8 → k ≠ 3 → k ≠ 7 → F (92 + 8 * p + k) = N (92 + 8 * p + k) := fun p k hp hk h3 h7 => a4 _ (by omega) (by omega) (fun p hp => by omega)
  have f0 := f 0 (by decide) (by decide) (by decide)
  have f1 := f 1 (by decide) (by decide) (by decide)
  have f2 := f 2 (by decide) (by decide) (by decide)
  have f3 := f 3 (by decide) (by decide) (by decide)
  have f4 := f 4 (by decide) (by decide) (by decide)
  have f5 := f 5 (by decide) (by decide) (by decide)
  have dS : ∀ h, dst F h = dst N h := fun h => by unfold dst stA; rw [f0, f1]
  refine ⟨⟨by omega, by omega, by omega, by omega, by omega, by omega, by omega, by omega⟩, r, fun h hh => ?_, fun h hh => ?_, fun h hh h8 k hk => ?_, fun h h' hh hh' => ?_, fun p hp => ?_, ⟨by omega, fun k hk => by omega, fun p hp hs => ?_⟩, ?_⟩
  · rw [f0] at hh
    unfold WH
    rw [f _ (by omega) (by omega) (by omega), f _ (by omega) (by omega) (by omega), f _ (by omega) (by omega) (by omega), f _ (by omega) (by omega) (by omega), f _ (by omega) (by omega) (by omega), f _ (by omega) (by omega) (by omega), f _ (by omega) (by omega) (by omega)]
    exact wh h hh
  · rw [f0] at hh
    intro q
    rw [f (12 + 10 * h + 3) (by omega) (by omega) (by omega)] at q
    obtain ⟨o1, o2, o3, o4, o5, o6⟩ := wo h hh q
    rw [f (12 + 10 * h + 3) (by omega) (by omega) (by omega), f (12 + 10 * h + 8) (by omega) (by omega) (by omega), f2, (a1 _ (by omega)).1, fp _ 1 (by omega) (by decide) (by decide) (by decide), fp _ 2 (by omega) (by decide) (by decide) (by decide), dS, if_neg (by omega)]
    exact ⟨o1, o2, o3, o4, o5, o6⟩
  · rw [f0] at hh
    rw [f _ (by omega) (by omega) (by omega)]; exact wz h hh h8 k hk
  · rw [f0] at hh hh'
    rw [f _ (by omega) (by omega) (by omega), f _ (by omega) (by omega) (by omega)]; exact wd h h' hh hh'
  · rw [f2] at hp
    obtain ⟨q0, q1, q2, q3, q4, q5, q6, q7, q8, q9⟩ := wq p hp
    obtain ⟨x1, x2⟩ := a1 p hp
    unfold WQ
    rw [fp p 0 hp (by decide) (by decide) (by decide), fp p 1 hp (by decide) (by decide) (by decide), fp p 2 hp (by decide) (by decide) (by decide), x1, fp p 4 hp (by decide) (by decide) (by decide), fp p 5 hp (by decide) (by decide) (by decide), fp p 6 hp (by decide) (by decide) (by decide), x2]
    by_cases z : N (92 + 8 * p + 3) = 0
    · rw [if_pos z, if_pos z]
      exact ⟨q0, q1, q2, q3, by omega, q5, q6, q7, by omega, fun y => absurd rfl y⟩
    · rw [if_neg z, if_neg z]
      exact ⟨q0, q1, q2, q3, q4, q5, q6, q7, q8, q9⟩
  · rw [f2] at hp
    rw [(a1 p hp).1] at hs
    by_cases z : N (92 + 8 * p + 3) = 0
    · rw [if_pos z] at hs; omega
    · rw [if_neg z] at hs; exact absurd hs z
  · unfold WC
    rw [cS_cnt] at k0 k1
    rw [cS_cnt, cS_cnt, f2, f0, a3, f4, f5, cH_same N F (N 0) (fun q hq => f _ (by omega) (by omega) (by omega))]
    obtain ⟨u1, u2⟩ := cnt_stop1 (fun q => N (92 + 8 * q + 3)) (N 2)
    refine ⟨?_, ?_, fun e h1 h2 => ?_, ?_, ?_⟩
    · exact (cnt_same _ _ _ _ (fun q hq => (a1 q hq).1)).trans u2
    · rw [← k1, ← u1]; exact cnt_same _ _ _ _ (fun q hq => (a1 q hq).1)
    · have u3 := cnt_stop (fun q => N (92 + 8 * q + 3)) (fun q => N (92 + 8 * q + 7)) e (N 2) (fun q hq y => (wq q hq).2.2.2.2.2.2.2.2.2 (by omega)) h1
      have u4 := cnt_same (fun q => F (92 + 8 * q + 7)) (fun q => if N (92 + 8 * q + 3) = 0 then 5 else N (92 + 8 * q + 7)) e (N 2) (fun q hq => (a1 q hq).2)
      rw [u4, u3, k2 e h1 h2, k0]
      by_cases e5 : e = 5
      · rw [if_pos e5, e5]; exact a2.symm
      · rw [if_neg e5, f (5 + e) (by omega) (by omega) (by omega)]; rfl
    · rw [← k3]; exact sm_same _ _ _ (fun q hq => f _ (by omega) (by omega) (by omega))
    · rw [← k4]; exact sm_same _ _ _ (fun q hq => f _ (by omega) (by omega) (by omega))
theorem cr_stop (cr : CR M c N D P) (w : WF N D P b) : CR (rwM M c) c (stpN N) D P ∧ OnC c M (rwM M c) := by
  have h60 := w.1.2.2.2.1
  have h8 := w.1.2.1
  obtain ⟨a1, a2, a3, a4⟩ := stp_all w.2.2.2.2.2.2.2.1 h60
  have wq := w.2.2.2.2.2.2.1
  obtain ⟨F, hF⟩ : ∃ F, F = stpN N := ⟨_, rfl⟩
  rw [← hF] at a1 a2 a3 a4 ⊢
  have f : ∀ j, j ≠ 10 → j ≠ 11 → j < 92 → F j = N j := fun j h1 h2 h3 => a4 j h1 h2 (fun p hp => by omega)
  have fp : ∀ p k, p < N 2 → k < 8 → k ≠ 3 → k ≠ 7 → F (92 + 8 * p + k) = N (92 + 8 * p + k) := fun p k hp hk h3 h7 => a4 _ (by omega) (by omega) (fun p hp => by omega)
  obtain ⟨S, ⟨s1, s2, s3, s4, s5⟩, cq, ch, cd, pc, pa⟩ := cr
  have mI : ∀ r k, r < c + 14 → gI (rwM M c) r k = gI M r k := fun r k h => gI_bkN (by omega)
  have mD : ∀ r k, gD (rwM M c) r k = gD M r k := fun r k => by
    by_cases h : r < c + 14 ∨ c + 14 + 60 ≤ r
    · exact gD_bkN h
    · have e : r = c + 14 + (r - (c + 14)) := by omega
      rw [e]
      exact gD_bkY (by omega)
  have mP : ∀ p k, p < 60 → gI (rwM M c) (c + 14 + p) k = rwI M (c + 14) p k := fun p k hp => gI_bkY hp
  refine ⟨⟨S.to (fun h hh => mI _ _ (by omega)) (fun p hp => ?_) (fun i k _ _ => rfl) rfl, ?_, fun i hi => ?_, fun h hh => ?_, fun h hh => ?_, fun p hp => ?_, fun p h1 h2 => ?_⟩, onC_bk (by omega) (by omega)⟩
  · rw [mP p 0 hp]
    unfold rwI
    split
    · rfl
    · rfl
  · unfold CS
    rw [mI _ _ (by omega), mI _ _ (by omega), mI _ _ (by omega), mI _ _ (by omega), mI _ _ (by omega), f 0 (by decide) (by decide) (by decide), f 1 (by decide) (by decide) (by decide), f 2 (by decide) (by decide) (by decide), f 3 (by decide) (by decide) (by decide)]
    exact ⟨s1, s2, s3, s4, s5⟩
  · rw [mD]; exact cq i hi
  · have x := ch h hh
    unfold HI at x ⊢
    rw [mI _ _ (by omega), mI _ _ (by omega), mI _ _ (by omega), mI _ _ (by omega), mI _ _ (by omega), mI _ _ (by omega), mI _ _ (by omega), mI _ _ (by omega), f _ (by omega) (by omega) (by omega), f _ (by omega) (by omega) (by omega), f _ (by omega) (by omega) (by omega), f _ (by omega) (by omega) (by omega), f _ (by omega) (by omega) (by omega), f _ (by omega) (by omega) (by omega), f _ (by omega) (by omega) (by omega), f _ (by omega) (by omega) (by omega)]
    exact x
  · rw [f 0 (by decide) (by decide) (by decide)] at hh
    have x := cd h hh
    unfold HD at x ⊢
    rw [mI _ _ (by omega), mD, mD, mD, mD, f _ (by omega) (by omega) (by omega), f _ (by omega) (by omega) (by omega)]
    exact x
  · rw [f 2 (by decide) (by decide) (by decide)] at hp
    have x := pc p hp
    have q4 := (wq p hp).2.2.2.2.1
    obtain ⟨x1, x2⟩ := a1 p hp
    obtain ⟨z1, z2, z3, z4, z5, z6, z7, z8, z10, z9⟩ := x
    have hp60 : p < 60 := by omega
    have cond : gI M (c + 14 + p) 4 = 0 ↔ N (92 + 8 * p + 3) = 0 := by
      rw [z4]; exact nI_eq (b := 0) (by omega) (by decide)
    unfold PC
    rw [mP p _ hp60, mP p _ hp60, mP p _ hp60, mP p _ hp60, mP p _ hp60, mP p _ hp60, mP p _ hp60, mP p _ hp60, mP p _ hp60, mD, fp p 0 hp (by decide) (by decide) (by decide), fp p 1 hp (by decide) (by decide) (by decide), fp p 2 hp (by decide) (by decide) (by decide), x1, fp p 4 hp (by decide) (by decide) (by decide), fp p 5 hp (by decide) (by decide) (by decide), fp p 6 hp (by decide) (by decide) (by decide), x2]
    unfold rwI
    by_cases z : N (92 + 8 * p + 3) = 0
    · simp only [if_pos (cond.mpr z), if_pos z]
      exact ⟨z1, z2, z3, rfl, rfl, z6, z7, z8, rfl, z9⟩
    · simp only [if_neg (fun y => z (cond.mp y)), if_neg z]
      rw [if_neg z] at z5
      exact ⟨z1, z2, z3, z4, z5, z6, z7, z8, z10, z9⟩
  · rw [f 2 (by decide) (by decide) (by decide)] at h1
    obtain ⟨y1, y2, y3⟩ := pa p h1 h2
    unfold PA
    rw [mP p _ h2, mP p _ h2, mP p _ h2]
    unfold rwI
    rw [if_neg (by rw [y1]; decide), if_neg (by rw [y1]; decide), if_neg (by rw [y1]; decide)]
    exact ⟨y1, y2, y3⟩

