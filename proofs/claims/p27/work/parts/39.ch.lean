/-! THE PURE PART, 17: the class copies a carousel, begins one -/
variable {zz : Nat}
variable {M M' : Mem} {c h p t : Nat} {N N' P P' : Nat → Nat} {D D' : Nat → UInt64}
def hcI (M : Mem) (s r k : Nat) : Int32 := if k = 13 then gI M s 13 else if k = 12 then gI M s 12 else if k = 11 then gI M s 11 else if k = 10 then gI M s 10 else if k = 9 then gI M s 9 else if k = 6 then gI M s 6 else if k = 5 then gI M s 5 else if k = 4 then gI M s 4 else if k = 3 then gI M s 3 else gI M r k
def hcD (M : Mem) (s r k : Nat) : UInt64 := if k = 8 then gD M s 8 else if k = 7 then gD M s 7 else if k = 2 then gD M s 2 else if k = 1 then gD M s 1 else gD M r k
def pcI (M : Mem) (s r k : Nat) : Int32 := if k = 10 then gI M s 10 else if k = 8 then gI M s 8 else if k = 7 then gI M s 7 else if k = 6 then gI M s 6 else if k = 5 then gI M s 5 else if k = 4 then gI M s 4 else if k = 3 then gI M s 3 else if k = 2 then gI M s 2 else if k = 1 then gI M s 1 else gI M r k
def pcD (M : Mem) (s r k : Nat) : UInt64 := if k = 9 then gD M s 9 else gD M r k
def hbI (M : Mem) (r k : Nat) : Int32 := if k = 13 then 0 else if k = 12 then 0 else if k = 11 then 0 else if k = 10 then 0 else if k = 9 then 0 else if k = 6 then -5 else if k = 5 then 0 else if k = 4 then 0 else if k = 3 then 0 else gI M r k
def hbD (M : Mem) (r k : Nat) : UInt64 := if k = 8 then FP.dconst0 else if k = 7 then FP.dconst0 else if k = 2 then FP.dconst1 else if k = 1 then FP.dconst1 else gD M r k
def pbI (M : Mem) (r k : Nat) : Int32 := if k = 4 then -1 else if k = 10 then -5 else if k = 8 then -5 else if k = 7 then 0 else if k = 6 then 0 else if k = 5 then -5 else if k = 4 then 0 else if k = 3 then 1 else if k = 2 then 0 else if k = 1 then 0 else gI M r k
def pbD (M : Mem) (r k : Nat) : UInt64 := if k = 9 then FP.dconst0 else gD M r k
/-- a row is as told, all others are as they were -/
def Row (M M' : Mem) (r : Nat) (f : Nat → Int32) (g : Nat → UInt64) : Prop := (∀ a k, a ≠ r → gI M' a k = gI M a k) ∧ (∀ k, gI M' r k = f k) ∧ (∀ a k, a ≠ r → gD M' a k = gD M a k) ∧ (∀ k, gD M' r k = g k) ∧ M'.2.2 = M.2.2
theorem h_copy {K : Mem → Prop} {s r : Nat} (ks : s ≤ (448 + zz) ∧ kd s = (1, 0)) (kr : r ≤ (448 + zz) ∧ kd r = (1, 0)) (n : s ≠ r) (H : ∀ M', Row M M' r (hcI M s r) (hcD M s r) → K M') : w_X1_copyOf (448 + zz) M r s K := by
  refine ⟨ks, kr, m_eq (m_eq (m_eq (m_eq (m_eq (m_eq (m_eq (m_eq (m_eq (m_eq (m_eq (m_eq (m_eq (H _ ⟨fun a k q => ?_, fun k => ?_, fun a k q => ?_, fun k => ?_, rfl⟩)))))))))))))⟩
  · simp only [gI_sI, gI_sD, q, false_and, if_false]
  · simp only [gI_sI, gI_sD, n, false_and, if_false, true_and]; rfl
  · simp only [gD_sI, gD_sD, q, false_and, if_false]
  · simp only [gD_sI, gD_sD, n, false_and, if_false, true_and]; rfl
theorem p_copy {K : Mem → Prop} {s r : Nat} (ks : s ≤ (448 + zz) ∧ kd s = (2, 0)) (kr : r ≤ (448 + zz) ∧ kd r = (2, 0)) (n : s ≠ r) (hb : gI M s 1 = 0 ∨ gI M s 1 = 1) (H : ∀ M', Row M M' r (pcI M s r) (pcD M s r) → K M') : w_X2_copyOf (448 + zz) M r s K := by
  refine ⟨ks, kr, hb, m_eq (m_eq (m_eq (m_eq (m_eq (m_eq (m_eq (m_eq (m_eq (m_eq (H _ ⟨fun a k q => ?_, fun k => ?_, fun a k q => ?_, fun k => ?_, rfl⟩))))))))))⟩
  · simp only [gI_sI, gI_sD, q, false_and, if_false]
  · simp only [gI_sI, gI_sD, n, false_and, if_false, true_and]; rfl
  · simp only [gD_sI, gD_sD, q, false_and, if_false]
  · simp only [gD_sI, gD_sD, n, false_and, if_false, true_and]; rfl
theorem h_begin {K : Mem → Prop} {r : Nat} (kr : r ≤ (448 + zz) ∧ kd r = (1, 0)) (H : ∀ M', Row M M' r (hbI M r) (hbD M r) → K M') : w_X1_begin (448 + zz) M r K := by
  refine ⟨kr, m_eq (m_eq (m_eq (m_eq (m_eq (m_eq (m_eq (m_eq (m_eq (m_eq (m_eq (m_eq (m_eq (H _ ⟨fun a k q => ?_, fun k => ?_, fun a k q => ?_, fun k => ?_, rfl⟩)))))))))))))⟩
  · simp only [gI_sI, gI_sD, q, false_and, if_false]
  · simp only [gI_sI, gI_sD, true_and]; rfl
  · simp only [gD_sI, gD_sD, q, false_and, if_false]
  · simp only [gD_sI, gD_sD, true_and]; rfl
theorem p_absent {K : Mem → Prop} {r : Nat} (kr : r ≤ (448 + zz) ∧ kd r = (2, 0)) (H : ∀ M', Row M M' r (pbI M r) (pbD M r) → K M') : w_X2_beAbsent (448 + zz) M r K := by
  refine ⟨kr, kr, Or.inl rfl, m_eq (m_eq (m_eq (m_eq (m_eq (m_eq (m_eq (m_eq (m_eq (m_eq (m_eq (H _ ⟨fun a k q => ?_, fun k => ?_, fun a k q => ?_, fun k => ?_, rfl⟩)))))))))))⟩
  · simp only [gI_sI, gI_sD, q, false_and, if_false]
  · simp only [gI_sI, gI_sD, true_and]; rfl
  · simp only [gD_sI, gD_sD, q, false_and, if_false]
  · simp only [gD_sI, gD_sD, true_and]; rfl
/-- a row told, in a block of rows -/
theorem bk_row {Mi : Mem} {a i : Nat} {FI : Nat → Nat → Int32} {FD : Nat → Nat → UInt64} {f : Nat → Int32} {g : Nat → UInt64} (hMi : Mi = bkM M a i FI FD) (R : Row Mi M' (a + i) f g) (h1 : ∀ k, f k = FI i k) (h2 : ∀ k, g k = FD i k) : M' = bkM M a (i + 1) FI FD := by
  obtain ⟨r1, r2, r3, r4, r5⟩ := R
  subst hMi
  exact bk_s r1 (fun k => (r2 k).trans (h1 k)) r3 (fun k => (r4 k).trans (h2 k)) r5
def bgM (M : Mem) (c n : Nat) : Mem := sI (sI (sI (sI (bkM (bkM M (c + 5) 8 (fun i => hbI M (c + 5 + i)) (fun i => hbD M (c + 5 + i))) (c + 14) 60 (fun i => pbI M (c + 14 + i)) (fun i => pbD M (c + 14 + i))) c 6 (nI n)) c 7 0) c 8 0) c 9 0
theorem c_begin {K : Mem → Prop} (S : Sh M c) (n : Nat) (H : K (bgM M c n)) : w_X0_begin (448 + zz) M c (nI n) K := by
  obtain ⟨C, ⟨r0, r1, r2, r3, r4⟩, hhn, hpn, -⟩ := id S
  refine ⟨kc0 (zz := zz) C, m_rR r3 (a_len (kcH (zz := zz) C) (by decide) (m_eq ?_))⟩
  rw [a_ln (kcH (zz := zz) C)]
  refine lpU (fun f i M' => w_X0_begin_L11 (448 + zz) K f M' c (nI n) (c + 4) (nI 8) (nI i)) (fun i M' => M' = bkM M (c + 5) i (fun i => hbI M (c + 5 + i)) (fun i => hbD M (c + 5 + i))) 8 ?_ ?_ 4000 0 M (by omega) (by omega) (bk_0 _ _ _).symm
  · intro f M' hM
    obtain ⟨M1, e1⟩ : ∃ M1, M1 = M' := ⟨_, rfl⟩
    have rr : gR M' c 4 = c + 13 := by rw [hM]; exact r4
    refine pk_le 8 8 (fun _ => ⟨kc0 (zz := zz) C, m_rR rr (a_len (kcA (zz := zz) C) (by decide) (m_eq ?_))⟩) (fun z => by omega)
    rw [a_ln (kcA (zz := zz) C)]
    refine lpU (fun f i M'' => w_X0_begin_L45 (448 + zz) K f M'' c (nI n) (c + 13) (nI 60) (nI i)) (fun i M'' => M'' = bkM M' (c + 14) i (fun i => pbI M (c + 14 + i)) (fun i => pbD M (c + 14 + i))) 60 ?_ ?_ 4000 0 M' (by omega) (by omega) (bk_0 _ _ _).symm
    · intro f M'' hM''
      refine pk_le 60 60 (fun _ => ⟨kc0 (zz := zz) C, m_eq (m_eq (m_eq (m_eq ?_)))⟩) (fun z => by omega)
      rw [hM'', hM]; exact H
    · intro f i M'' hi hM'' ih
      have rp : gR M'' (c + 13) i = c + 14 + i := by rw [hM'', hM]; exact (hpn i hi).1
      refine pk_le 60 i (fun z => by omega) (fun _ => a_idx (c + 13) 11 60 i _ (kcA (zz := zz) C) (by decide) rfl hi (by decide) rp ⟨kcp (zz := zz) C i hi, p_absent (kcp (zz := zz) C i hi) (fun M3 R => m_eq ?_)⟩)
      rw [nI_1]
      have e1 : ∀ k, gI M'' (c + 14 + i) k = gI M (c + 14 + i) k := fun k => by rw [hM'', gI_bkN (by omega), hM, gI_bkN (by omega)]
      have e2 : ∀ k, gD M'' (c + 14 + i) k = gD M (c + 14 + i) k := fun k => by rw [hM'', gD_bkN (by omega), hM, gD_bkN (by omega)]
      refine ih M3 (bk_row hM'' R (fun k => ?_) (fun k => ?_))
      · unfold pbI; rw [e1 k]
      · unfold pbD; rw [e2 k]
  · intro f i M' hi hM ih
    have rp : gR M' (c + 4) i = c + 5 + i := by rw [hM]; exact (hhn i hi).1
    refine pk_le 8 i (fun z => by omega) (fun _ => a_idx (c + 4) 10 8 i _ (kcH (zz := zz) C) (by decide) rfl hi (by decide) rp ⟨kch (zz := zz) C i hi, h_begin (kch (zz := zz) C i hi) (fun M3 R => m_eq ?_)⟩)
    rw [nI_1]
    have e1 : ∀ k, gI M' (c + 5 + i) k = gI M (c + 5 + i) k := fun k => by rw [hM, gI_bkN (by omega)]
    have e2 : ∀ k, gD M' (c + 5 + i) k = gD M (c + 5 + i) k := fun k => by rw [hM, gD_bkN (by omega)]
    refine ih M3 (bk_row hM R (fun k => ?_) (fun k => ?_))
    · unfold hbI; rw [e1 k]
    · unfold hbD; rw [e2 k]
/-- the cells of two carousels are apart -/
def Apart (a c : Nat) : Prop := a + 74 ≤ c ∨ c + 74 ≤ a
def prM (M : Mem) (a c i : Nat) : Mem := sD (sL M (a + 1 + i) 2 (gL M (c + 1 + i) 2)) (a + 1 + i) 3 (gD M (c + 1 + i) 3)
def cyM (M : Mem) (a c : Nat) : Mem := sI (sI (sI (sI (sI (bkM (bkM (prM (prM (prM M a c 0) a c 1) a c 2) (a + 5) 8 (fun i => hcI M (c + 5 + i) (a + 5 + i)) (fun i => hcD M (c + 5 + i) (a + 5 + i))) (a + 14) 60 (fun i => pcI M (c + 14 + i) (a + 14 + i)) (fun i => pcD M (c + 14 + i) (a + 14 + i))) a 5 (gI M c 5)) a 6 (gI M c 6)) a 7 (gI M c 7)) a 8 (gI M c 8)) a 9 (gI M c 9)
theorem c_copyOf {K : Mem → Prop} {a : Nat} (S : Sh M c) (T : Sh M a) (ap : Apart a c) (hb : ∀ p, p < 60 → gI M (c + 14 + p) 1 = 0 ∨ gI M (c + 14 + p) 1 = 1) (H : K (cyM M a c)) : w_X0_copyOf (448 + zz) M a c K := by
  obtain ⟨C, ⟨r0, r1, r2, r3, r4⟩, hhn, hpn, -⟩ := id S
  obtain ⟨A, ⟨u0, u1, u2, u3, u4⟩, ahn, apn, -⟩ := id T
  unfold Apart at ap
  obtain ⟨X, hX⟩ : ∃ X, X = prM (prM (prM M a c 0) a c 1) a c 2 := ⟨_, rfl⟩
  have xI : ∀ r k, gI X r k = gI M r k := fun r k => by rw [hX]; rfl
  have xR : ∀ r k, gR X r k = gR M r k := fun r k => by rw [hX]; rfl
  have xD : ∀ r k, (r < a + 1 ∨ a + 4 ≤ r) → gD X r k = gD M r k := fun r k q => by
    rw [hX]
    unfold prM
    rw [gD_ne (Or.inl (by omega)), gD_sL, gD_ne (Or.inl (by omega)), gD_sL, gD_ne (Or.inl (by omega)), gD_sL]
  refine ⟨kc0 (zz := zz) A, m_rR u0 ⟨kc0 (zz := zz) C, m_rR r0 ⟨kcP (zz := zz) A 0 (by decide), kcP (zz := zz) C 0 (by decide), kcP (zz := zz) A 0 (by decide), m_eq (m_eq (m_rR u1 (m_rR r1 ⟨kcP (zz := zz) A 1 (by decide), kcP (zz := zz) C 1 (by decide), kcP (zz := zz) A 1 (by decide), m_eq (m_eq (m_rR u2 (m_rR r2 ⟨kcP (zz := zz) A 2 (by decide), kcP (zz := zz) C 2 (by decide), kcP (zz := zz) A 2 (by decide), m_eq (m_eq ?_)⟩)))⟩)))⟩⟩⟩
  change w_X0_copyOf_L35 (448 + zz) K 4000 (prM (prM (prM M a c 0) a c 1) a c 2) a c 0
  rw [← hX]
  refine lpU (fun f i M' => w_X0_copyOf_L35 (448 + zz) K f M' a c (nI i)) (fun i M' => M' = bkM X (a + 5) i (fun i => hcI M (c + 5 + i) (a + 5 + i)) (fun i => hcD M (c + 5 + i) (a + 5 + i))) 8 ?_ ?_ 4000 0 X (by omega) (by omega) (bk_0 _ _ _).symm
  · intro f M' hM
    have v3 : gR M' a 3 = a + 4 := by rw [hM]; exact (xR a 3).trans u3
    refine ⟨kc0 (zz := zz) A, m_rR v3 (a_len (kcH (zz := zz) A) (by decide) ?_)⟩
    rw [a_ln (kcH (zz := zz) A)]
    refine pk_le 8 8 (fun _ => ?_) (fun z => by omega)
    refine lpU (fun f i M'' => w_X0_copyOf_L76 (448 + zz) K f M'' a c (nI i)) (fun i M'' => M'' = bkM M' (a + 14) i (fun i => pcI M (c + 14 + i) (a + 14 + i)) (fun i => pcD M (c + 14 + i) (a + 14 + i))) 60 ?_ ?_ 4000 0 M' (by omega) (by omega) (bk_0 _ _ _).symm
    · intro f M'' hM''
      have w4 : gR M'' a 4 = a + 13 := by rw [hM'', hM]; exact (xR a 4).trans u4
      refine ⟨kc0 (zz := zz) A, m_rR w4 (a_len (kcA (zz := zz) A) (by decide) ?_)⟩
      rw [a_ln (kcA (zz := zz) A)]
      refine pk_le 60 60 (fun _ => ⟨kc0 (zz := zz) C, m_eq (m_eq (m_eq (m_eq (m_eq ?_))))⟩) (fun z => by omega)
      have e : ∀ k, gI M'' c k = gI M c k := fun k => by rw [hM'', gI_bkN (by omega), hM, gI_bkN (by omega), xI]
      rw [gI_ne (Or.inl (by omega)), gI_ne (Or.inl (by omega)), gI_ne (Or.inl (by omega)), gI_ne (Or.inl (by omega)), gI_ne (Or.inl (by omega)), gI_ne (Or.inl (by omega)), gI_ne (Or.inl (by omega)), gI_ne (Or.inl (by omega)), gI_ne (Or.inl (by omega)), gI_ne (Or.inl (by omega)), e, e, e, e, e, hM'', hM, hX]
      exact H
    · intro f i M'' hi hM'' ih
      have w4 : gR M'' a 4 = a + 13 := by rw [hM'', hM]; exact (xR a 4).trans u4
      have w4c : gR M'' c 4 = c + 13 := by rw [hM'', hM]; exact (xR c 4).trans r4
      have wa : gR M'' (a + 13) i = a + 14 + i := by rw [hM'', hM]; exact (xR _ _).trans (apn i hi).1
      have wc : gR M'' (c + 13) i = c + 14 + i := by rw [hM'', hM]; exact (xR _ _).trans (hpn i hi).1
      have e1 : ∀ k, gI M'' (a + 14 + i) k = gI M (a + 14 + i) k := fun k => by rw [hM'', gI_bkN (by omega), hM, gI_bkN (by omega), xI]
      have e2 : ∀ k, gD M'' (a + 14 + i) k = gD M (a + 14 + i) k := fun k => by rw [hM'', gD_bkN (by omega), hM, gD_bkN (by omega), xD _ _ (by omega)]
      have e3 : ∀ k, gI M'' (c + 14 + i) k = gI M (c + 14 + i) k := fun k => by rw [hM'', gI_bkN (by omega), hM, gI_bkN (by omega), xI]
      have e4 : ∀ k, gD M'' (c + 14 + i) k = gD M (c + 14 + i) k := fun k => by rw [hM'', gD_bkN (by omega), hM, gD_bkN (by omega), xD _ _ (by omega)]
      refine ⟨kc0 (zz := zz) A, m_rR w4 (a_len (kcA (zz := zz) A) (by decide) ?_)⟩
      rw [a_ln (kcA (zz := zz) A)]
      refine pk_le 60 i (fun z => by omega) (fun _ => ⟨kc0 (zz := zz) C, m_rR w4c (a_len (kcA (zz := zz) C) (by decide) ?_)⟩)
      rw [a_ln (kcA (zz := zz) C)]
      refine pk_le 60 i (fun z => by omega) (fun _ => m_rR w4 (a_idx (a + 13) 11 60 i _ (kcA (zz := zz) A) (by decide) rfl hi (by decide) wa (m_rR w4c (a_idx (c + 13) 11 60 i _ (kcA (zz := zz) C) (by decide) rfl hi (by decide) wc ⟨kcp (zz := zz) A i hi, p_copy (kcp (zz := zz) C i hi) (kcp (zz := zz) A i hi) (by omega) (by rw [e3]; exact hb i hi) (fun M3 R => m_eq ?_)⟩))))
      rw [nI_1]
      refine ih M3 (bk_row hM'' R (fun k => ?_) (fun k => ?_))
      · unfold pcI; simp only [e1, e3]
      · unfold pcD; simp only [e2, e4]
  · intro f i M' hi hM ih
    have v3 : gR M' a 3 = a + 4 := by rw [hM]; exact (xR a 3).trans u3
    have v3c : gR M' c 3 = c + 4 := by rw [hM]; exact (xR c 3).trans r3
    have wa : gR M' (a + 4) i = a + 5 + i := by rw [hM]; exact (xR _ _).trans (ahn i hi).1
    have wc : gR M' (c + 4) i = c + 5 + i := by rw [hM]; exact (xR _ _).trans (hhn i hi).1
    have e1 : ∀ k, gI M' (a + 5 + i) k = gI M (a + 5 + i) k := fun k => by rw [hM, gI_bkN (by omega), xI]
    have e2 : ∀ k, gD M' (a + 5 + i) k = gD M (a + 5 + i) k := fun k => by rw [hM, gD_bkN (by omega), xD _ _ (by omega)]
    have e3 : ∀ k, gI M' (c + 5 + i) k = gI M (c + 5 + i) k := fun k => by rw [hM, gI_bkN (by omega), xI]
    have e4 : ∀ k, gD M' (c + 5 + i) k = gD M (c + 5 + i) k := fun k => by rw [hM, gD_bkN (by omega), xD _ _ (by omega)]
    refine ⟨kc0 (zz := zz) A, m_rR v3 (a_len (kcH (zz := zz) A) (by decide) ?_)⟩
    rw [a_ln (kcH (zz := zz) A)]
    refine pk_le 8 i (fun z => by omega) (fun _ => ⟨kc0 (zz := zz) C, m_rR v3c (a_len (kcH (zz := zz) C) (by decide) ?_)⟩)
    rw [a_ln (kcH (zz := zz) C)]
    refine pk_le 8 i (fun z => by omega) (fun _ => m_rR v3 (a_idx (a + 4) 10 8 i _ (kcH (zz := zz) A) (by decide) rfl hi (by decide) wa (m_rR v3c (a_idx (c + 4) 10 8 i _ (kcH (zz := zz) C) (by decide) rfl hi (by decide) wc ⟨kch (zz := zz) A i hi, h_copy (kch (zz := zz) C i hi) (kch (zz := zz) A i hi) (by omega) (fun M3 R => m_eq ?_)⟩))))
    rw [nI_1]
    refine ih M3 (bk_row hM R (fun k => ?_) (fun k => ?_))
    · unfold hcI; simp only [e1, e3]
    · unfold hcD; simp only [e2, e4]

