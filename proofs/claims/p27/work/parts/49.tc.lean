/-! THE PURE PART, 27: adding a part; the text -/
variable {zz : Nat}
variable {M M' A : Mem} {b b' c h k tl tl' : Nat} {s s' z : S3} {Hs : Nat → S3} {f : Bool} {q tx tx' : Nat → Nat} {N N' P : Nat → Nat} {D D' : Nat → UInt64}
theorem cr_cS (cr : CR M c N D P) (w : WF N D P b) (e : Nat) (he : e < 4) : cK (fun p => gI M (c + 14 + p) 4) (nI e) 60 = cS N e (N 2) := by
  rw [cS_cnt]
  refine cK_cnt _ _ e (N 2) 60 w.1.2.2.2.1 (fun p hp => ?_) (fun p h1 h2 => ?_)
  · have := (w.2.2.2.2.2.2.1 p hp).2.2.2.2.1
    rw [(cr.2.2.2.2.2.1 p hp).2.2.2.1]
    exact nI_eq (by omega) (by omega)
  · rw [(cr.2.2.2.2.2.2 p h1 h2).1]
    exact fun y => nI_pos (n := e) (by omega) (by rw [← y]; decide)
theorem cnt_le (f : Nat → Nat) (s : Nat) : ∀ n, cnt f s n ≤ n := fun n => by
  have := cnt_le2 f s (s + 1) (by omega) n
  omega
theorem WF.le11 (w : WF N D P b) : N 11 ≤ N 2 := by
  have h := w.2.2.2.2.2.2.2.2.1
  rw [cS_cnt] at h
  rw [← h]
  exact cnt_le _ _ _
def adP (N P : Nat → Nat) : Nat → Nat := up P (N 2) (N 11)
theorem ad_all (N : Nat → Nat) (x y v : Nat) (h60 : N 2 < 60) (h11 : N 11 < 60) : adN N x y v 2 = N 2 + 1 ∧ adN N x y v 11 = N 11 + 1 ∧ adN N x y v (572 + N 11) = N 2 ∧ (adN N x y v (92 + 8 * N 2 + 0) = x ∧ adN N x y v (92 + 8 * N 2 + 1) = y ∧ adN N x y v (92 + 8 * N 2 + 2) = v ∧ ∀ k, 3 ≤ k → k < 8 → adN N x y v (92 + 8 * N 2 + k) = 0) ∧ ∀ j, j ≠ 2 → j ≠ 11 → j ≠ 572 + N 11 → (j < 92 + 8 * N 2 ∨ 92 + 8 * N 2 + 8 ≤ j) → adN N x y v j = N j := by
  obtain ⟨X, hX⟩ : ∃ X, X = inc (up (up (up (zpN N (N 2) 8) (92 + 8 * N 2 + 0) x) (92 + 8 * N 2 + 1) y) (92 + 8 * N 2 + 2) v) 2 := ⟨_, rfl⟩
  have z : ∀ j, (j < 92 + 8 * N 2 ∨ 92 + 8 * N 2 + 8 ≤ j) → zpN N (N 2) 8 j = N j := fun j hj => if_neg (by omega)
  have x2 : X 2 = N 2 + 1 := by rw [hX, inc_eq, up_ne (by omega), up_ne (by omega), up_ne (by omega), z 2 (by omega)]
  have xo : ∀ j, j ≠ 2 → (j < 92 + 8 * N 2 ∨ 92 + 8 * N 2 + 8 ≤ j) → X j = N j := fun j h2 hj => by rw [hX, inc_ne h2, up_ne (by omega), up_ne (by omega), up_ne (by omega), z j hj]
  have x11 : X 11 = N 11 := xo 11 (by decide) (by omega)
  have e : adN N x y v = inc (up X (572 + N 11) (N 2)) 11 := by
    unfold adN
    rw [← hX]
    unfold tbN
    rw [x11]
  rw [e]
  refine ⟨by rw [inc_ne (by decide), up_ne (by omega), x2], by rw [inc_eq, up_ne (by omega), x11], by rw [inc_ne (by omega), up_eq], ⟨?_, ?_, ?_, fun k h1 h2 => ?_⟩, fun j h1 h2 h3 h4 => ?_⟩
  · rw [inc_ne (by omega), up_ne (by omega), hX, inc_ne (by omega), up_ne (by omega), up_ne (by omega), up_eq]
  · rw [inc_ne (by omega), up_ne (by omega), hX, inc_ne (by omega), up_ne (by omega), up_eq]
  · rw [inc_ne (by omega), up_ne (by omega), hX, inc_ne (by omega), up_eq]
  · rw [inc_ne (by omega), up_ne (by omega), hX, inc_ne (by omega), up_ne (by omega), up_ne (by omega), up_ne (by omega)]
    exact if_pos (by omega)
  · rw [inc_ne h2, up_ne h3, xo j h1 h4]
def pnI (M : Mem) (r : Nat) (x y v pl : Int32) (k : Nat) : Int32 := if k = 10 then -5 else if k = 8 then -5 else if k = 7 then 0 else if k = 6 then 0 else if k = 5 then pl else if k = 4 then 0 else if k = 3 then v else if k = 2 then y else if k = 1 then x else gI M r k
theorem p_begin {K : Mem → Prop} {r : Nat} {x y v pl : Int32} (kr : r ≤ (448 + zz) ∧ kd r = (2, 0)) (hx : x = 0 ∨ x = 1) (H : ∀ M', Row M M' r (pnI M r x y v pl) (pbD M r) → K M') : w_X2_begin (448 + zz) M r x y v pl K := by
  refine ⟨kr, hx, m_eq (m_eq (m_eq (m_eq (m_eq (m_eq (m_eq (m_eq (m_eq (m_eq (H _ ⟨fun a k q => ?_, fun k => ?_, fun a k q => ?_, fun k => ?_, rfl⟩))))))))))⟩
  · simp only [gI_sI, gI_sD, q, false_and, if_false]
  · simp only [gI_sI, gI_sD, true_and]; rfl
  · simp only [gD_sI, gD_sD, q, false_and, if_false]
  · simp only [gD_sI, gD_sD, true_and]; rfl
theorem cr_add {M1 : Mem} (cr : CR M c N D P) (h0 : N 0 ≤ 8) (h60 : N 2 < 60) (h11 : N 11 < 60) (x y v : Nat) (R : Row M M1 (c + 14 + N 2) (pnI M (c + 14 + N 2) (nI x) (nI y) (nI v) (nI (N 11))) (pbD M (c + 14 + N 2))) : CR (sI M1 c 7 (nI (N 2 + 1))) c (adN N x y v) D (adP N P) ∧ OnC c M (sI M1 c 7 (nI (N 2 + 1))) := by
  obtain ⟨S, ⟨s1, s2, s3, s4, s5⟩, cq, ch, cd, pc, pa⟩ := cr
  obtain ⟨a2, a11, al, ⟨a0', a1', a2', a3'⟩, ao⟩ := ad_all N x y v h60 h11
  obtain ⟨r1, r2, r3, r4, r5⟩ := R
  obtain ⟨F, hF⟩ : ∃ F, F = adN N x y v := ⟨_, rfl⟩
  rw [← hF] at a2 a11 al a0' a1' a2' a3' ao ⊢
  have mI : ∀ r k, r ≠ c + 14 + N 2 → (r ≠ c ∨ k ≠ 7) → gI (sI M1 c 7 (nI (N 2 + 1))) r k = gI M r k := fun r k h1 h2 => by rw [gI_ne h2, r1 r k h1]
  have mP : ∀ k, gI (sI M1 c 7 (nI (N 2 + 1))) (c + 14 + N 2) k = pnI M (c + 14 + N 2) (nI x) (nI y) (nI v) (nI (N 11)) k := fun k => by rw [gI_ne (Or.inl (by omega)), r2 k]
  have mD : ∀ r k, r ≠ c + 14 + N 2 → gD (sI M1 c 7 (nI (N 2 + 1))) r k = gD M r k := fun r k h1 => by rw [gD_sI, r3 r k h1]
  have mL : ∀ r k, gL (sI M1 c 7 (nI (N 2 + 1))) r k = gL M r k := fun r k => congrFun (congrFun (congrArg Prod.fst r5) r) k
  have f0 : F 0 = N 0 := ao 0 (by decide) (by decide) (by omega) (by omega)
  refine ⟨⟨S.to (fun h hh => mI _ _ (by omega) (by omega)) (fun p hp => ?_) (fun i k _ _ => mL _ _) (congrArg Prod.snd r5), ?_, fun i hi => ?_, fun h hh => ?_, fun h hh => ?_, fun p hp => ?_, fun p h1 h2 => ?_⟩, fun r k hr => ?_, fun r k hr => ?_, fun r k hr => mL r k, congrArg Prod.snd r5⟩
  · by_cases e : p = N 2
    · rw [e, mP]; rfl
    · exact mI _ _ (by omega) (by omega)
  · unfold CS
    rw [mI _ _ (by omega) (by omega), mI _ _ (by omega) (by omega), gI_eq, mI _ _ (by omega) (by omega), mI _ _ (by omega) (by omega), ao 3 (by decide) (by decide) (by omega) (by omega), f0, a2, ao 1 (by decide) (by decide) (by omega) (by omega)]
    exact ⟨s1, s2, rfl, s4, s5⟩
  · rw [mL, mD _ _ (by omega)]; exact cq i hi
  · have hx := ch h hh
    unfold HI at hx ⊢
    rw [mI _ _ (by omega) (by omega), mI _ _ (by omega) (by omega), mI _ _ (by omega) (by omega), mI _ _ (by omega) (by omega), mI _ _ (by omega) (by omega), mI _ _ (by omega) (by omega), mI _ _ (by omega) (by omega), mI _ _ (by omega) (by omega), ao _ (by omega) (by omega) (by omega) (by omega), ao _ (by omega) (by omega) (by omega) (by omega), ao _ (by omega) (by omega) (by omega) (by omega), ao _ (by omega) (by omega) (by omega) (by omega), ao _ (by omega) (by omega) (by omega) (by omega), ao _ (by omega) (by omega) (by omega) (by omega), ao _ (by omega) (by omega) (by omega) (by omega), ao _ (by omega) (by omega) (by omega) (by omega)]
    exact hx
  · rw [f0] at hh
    have hx := cd h hh
    unfold HD at hx ⊢
    rw [mI _ _ (by omega) (by omega), mD _ _ (by omega), mD _ _ (by omega), mD _ _ (by omega), mD _ _ (by omega), ao _ (by omega) (by omega) (by omega) (by omega), ao _ (by omega) (by omega) (by omega) (by omega)]
    exact hx
  · rw [a2] at hp
    by_cases e : p = N 2
    · subst e
      unfold PC
      rw [mP, mP, mP, mP, mP, mP, mP, mP, mP, a0', a1', a2', a3' 3 (by decide) (by decide), a3' 4 (by decide) (by decide), a3' 5 (by decide) (by decide), a3' 6 (by decide) (by decide), a3' 7 (by decide) (by decide)]
      refine ⟨rfl, rfl, rfl, rfl, ?_, rfl, rfl, rfl, rfl, fun z => absurd rfl z⟩
      rw [if_pos rfl, show adP N P (N 2) = N 11 from up_eq _ _ _]; rfl
    · have hx := pc p (by omega)
      unfold PC at hx ⊢
      rw [mI _ _ (by omega) (by omega), mI _ _ (by omega) (by omega), mI _ _ (by omega) (by omega), mI _ _ (by omega) (by omega), mI _ _ (by omega) (by omega), mI _ _ (by omega) (by omega), mI _ _ (by omega) (by omega), mI _ _ (by omega) (by omega), mI _ _ (by omega) (by omega), mD _ _ (by omega), ao _ (by omega) (by omega) (by omega) (by omega), ao _ (by omega) (by omega) (by omega) (by omega), ao _ (by omega) (by omega) (by omega) (by omega), ao _ (by omega) (by omega) (by omega) (by omega), ao _ (by omega) (by omega) (by omega) (by omega), ao _ (by omega) (by omega) (by omega) (by omega), ao _ (by omega) (by omega) (by omega) (by omega), ao _ (by omega) (by omega) (by omega) (by omega), show adP N P p = P p from up_ne e]
      exact hx
  · rw [a2] at h1
    have hx := pa p (by omega) h2
    unfold PA at hx ⊢
    rw [mI _ _ (by omega) (by omega), mI _ _ (by omega) (by omega), mI _ _ (by omega) (by omega)]
    exact hx
  · exact mI r k (by omega) (by omega)
  · exact mD r k (by omega)
theorem wf_add (w : WF N D P b) (h60 : N 2 < 60) (x y v : Nat) (hx : x ≤ 1) (hy : y ≤ 99999) (v1 : 1 ≤ v) (v2 : v ≤ 999) : WF (adN N x y v) D (adP N P) b := by
  have h11 : N 11 < 60 := by have := w.le11; omega
  obtain ⟨⟨g0, g8, g1, g2, g31, g3, g4, g5⟩, r, wh, wo, wz, wd, wq, ⟨L0, L1, L2⟩, ⟨k0, k1, k2, k3, k4⟩⟩ := w
  obtain ⟨a2, a11, al, ⟨a0', a1', a2', a3'⟩, ao⟩ := ad_all N x y v h60 h11
  obtain ⟨F, hF⟩ : ∃ F, F = adN N x y v := ⟨_, rfl⟩
  rw [← hF] at a2 a11 al a0' a1' a2' a3' ao ⊢
  have f : ∀ j, j ≠ 2 → j ≠ 11 → j < 92 → F j = N j := fun j h1 h2 h3 => ao j h1 h2 (by omega) (by omega)
  have fp : ∀ p k, p < N 2 → k < 8 → F (92 + 8 * p + k) = N (92 + 8 * p + k) := fun p k hp hk => ao _ (by omega) (by omega) (by omega) (by omega)
  have fl : ∀ k, k < N 11 → F (572 + k) = N (572 + k) := fun k hk => ao _ (by omega) (by omega) (by omega) (by omega)
  have f0 := f 0 (by decide) (by decide) (by decide)
  have f1 := f 1 (by decide) (by decide) (by decide)
  have f3 := f 3 (by decide) (by decide) (by decide)
  have f4 := f 4 (by decide) (by decide) (by decide)
  have f5 := f 5 (by decide) (by decide) (by decide)
  have dS : ∀ h, dst F h = dst N h := fun h => by unfold dst stA; rw [f0, f1]
  refine ⟨⟨by omega, by omega, by omega, by omega, by omega, by omega, by omega, by omega⟩, r, fun h hh => ?_, fun h hh => ?_, fun h hh h8 k hk => ?_, fun h h' hh hh' => ?_, fun p hp => ?_, ⟨by omega, fun k hk => ?_, fun p hp hs => ?_⟩, ?_⟩
  · rw [f0] at hh
    unfold WH
    rw [f _ (by omega) (by omega) (by omega), f _ (by omega) (by omega) (by omega), f _ (by omega) (by omega) (by omega), f _ (by omega) (by omega) (by omega), f _ (by omega) (by omega) (by omega), f _ (by omega) (by omega) (by omega), f _ (by omega) (by omega) (by omega)]
    exact wh h hh
  · rw [f0] at hh
    intro q
    rw [f (12 + 10 * h + 3) (by omega) (by omega) (by omega)] at q
    obtain ⟨o1, o2, o3, o4, o5, o6⟩ := wo h hh q
    rw [f (12 + 10 * h + 3) (by omega) (by omega) (by omega), f (12 + 10 * h + 8) (by omega) (by omega) (by omega), a2, fp _ _ (by omega) (by decide), fp _ _ (by omega) (by decide), fp _ _ (by omega) (by decide), dS]
    exact ⟨by omega, o2, o3, o4, o5, o6⟩
  · rw [f0] at hh
    rw [f _ (by omega) (by omega) (by omega)]; exact wz h hh h8 k hk
  · rw [f0] at hh hh'
    rw [f _ (by omega) (by omega) (by omega), f _ (by omega) (by omega) (by omega)]; exact wd h h' hh hh'
  · rw [a2] at hp
    by_cases e : p = N 2
    · subst e
      unfold WQ
      rw [a0', a1', a2', a3' 3 (by decide) (by decide), a3' 4 (by decide) (by decide), a3' 5 (by decide) (by decide), a3' 6 (by decide) (by decide), a3' 7 (by decide) (by decide)]
      exact ⟨hx, hy, v1, v2, by omega, by omega, by omega, by omega, by omega, fun _ => rfl⟩
    · unfold WQ
      rw [fp p _ (by omega) (by decide), fp p _ (by omega) (by decide), fp p _ (by omega) (by decide), fp p _ (by omega) (by decide), fp p _ (by omega) (by decide), fp p _ (by omega) (by decide), fp p _ (by omega) (by decide), fp p _ (by omega) (by decide)]
      exact wq p (by omega)
  · rw [a11] at hk
    by_cases e : k = N 11
    · rw [e, al, a2, a3' 3 (by decide) (by decide)]
      exact ⟨by omega, rfl, up_eq _ _ _⟩
    · obtain ⟨l1, l2, l3⟩ := L1 k (by omega)
      rw [fl k (by omega), a2, fp _ _ l1 (by decide), show adP N P (N (572 + k)) = P (N (572 + k)) from up_ne (by omega)]
      exact ⟨by omega, l2, l3⟩
  · rw [a2] at hp
    by_cases e : p = N 2
    · subst e
      rw [show adP N P (N 2) = N 11 from up_eq _ _ _, a11]
      exact ⟨by omega, al⟩
    · rw [fp p _ (by omega) (by decide)] at hs
      obtain ⟨l1, l2⟩ := L2 p (by omega) hs
      rw [show adP N P p = P p from up_ne e, a11, fl _ l1]
      exact ⟨by omega, l2⟩
  · unfold WC
    rw [cS_cnt] at k0 k1
    rw [cS_cnt, cS_cnt, a2, f0, a11, f4, f5, cH_same N F (N 0) (fun q hq => f _ (by omega) (by omega) (by omega))]
    refine ⟨?_, ?_, fun e h1 h2 => ?_, ?_, ?_⟩
    · rw [cnt, cnt_same (fun q => F (92 + 8 * q + 3)) (fun q => N (92 + 8 * q + 3)) 0 (N 2) (fun q hq => fp q 3 hq (by decide)), k0, if_pos (a3' 3 (by decide) (by decide))]
    · rw [cnt, cnt_same (fun q => F (92 + 8 * q + 3)) (fun q => N (92 + 8 * q + 3)) 1 (N 2) (fun q hq => fp q 3 hq (by decide)), k1, if_neg (by rw [a3' 3 (by decide) (by decide)]; decide)]
      rfl
    · rw [f (5 + e) (by omega) (by omega) (by omega), cnt, cnt_same (fun q => F (92 + 8 * q + 7)) (fun q => N (92 + 8 * q + 7)) e (N 2) (fun q hq => fp q 7 hq (by decide)), k2 e h1 h2, if_neg (by rw [a3' 7 (by decide) (by decide)]; omega)]
      rfl
    · rw [← k3]; exact sm_same _ _ _ (fun q hq => f _ (by omega) (by omega) (by omega))
    · rw [← k4]; exact sm_same _ _ _ (fun q hq => f _ (by omega) (by omega) (by omega))
theorem c_addPart {K : Int32 → Mem → Prop} (cr : CR M c N D P) (w : WF N D P b) (h60 : N 2 < 60) (x y v : Nat) (hx : x ≤ 1) (H : ∀ M', CR M' c (adN N x y v) D (adP N P) → OnC c M M' → K (nI (N 2)) M') : w_X0_addPart (448 + zz) M c (nI x) (nI y) (nI v) K := by
  have h11 : N 11 < 60 := by have := w.le11; omega
  obtain ⟨S, ⟨s1, s2, s3, s4, s5⟩, -⟩ := id cr
  obtain ⟨C, ⟨r0, r1, r2, r3, r4⟩, hhn, hpn, -⟩ := id S
  have hq := cr_cS cr w 0 (by decide)
  rw [w.2.2.2.2.2.2.2.2.1] at hq
  refine ⟨kc0 (zz := zz) C, m_eq ?_⟩
  rw [s3]
  refine cF (nI_pos (by omega)) (m_rR r4 (a_len (kcA (zz := zz) C) (by decide) ?_))
  rw [a_ln (kcA (zz := zz) C)]
  refine cT (nI_lt h60 (by decide)) (m_rR r4 (a_idx (c + 13) 11 60 (N 2) _ (kcA (zz := zz) C) (by decide) rfl h60 (by decide) (hpn _ h60).1 (c_partsIn S (nI 0) ?_)))
  rw [hq]
  refine ⟨kcp (zz := zz) C _ h60, p_begin (kcp (zz := zz) C _ h60) ?_ (fun M1 R => m_eq ?_)⟩
  · rcases (show x = 0 ∨ x = 1 by omega) with e | e <;> rw [e]
    · exact Or.inl rfl
    · exact Or.inr rfl
  · rw [nI_1]
    obtain ⟨u1, u2⟩ := cr_add cr w.1.2.1 h60 h11 x y v R
    exact H _ u1 u2
