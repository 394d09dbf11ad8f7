/-! THE PURE PART, 19: the step, on both sides -/
variable {zz : Nat}
variable {M M' : Mem} {c h p t b b' : Nat} {N N' P P' : Nat → Nat} {D D' : Nat → UInt64}
def e1P (N : Nat → Nat) (D : Nat → UInt64) (a : Nat) (P : Nat → Nat) : Nat → Nat := if N (12 + 10 * a + 3) = 0 then P else enP N D a (N (12 + 10 * a + 3) - 1) (N (12 + 10 * a + 8) - 1) P
theorem wf_e1 (w : WF N D P b) (hb : b ≤ 20480) {a : Nat} (ha : a < N 0) : WF (e1N N D a) (e1D N D a) (e1P N D a P) (b + 1) ∧ e1N N D a (12 + 10 * a + 3) = 0 ∧ ∀ j, j ≤ 3 → e1N N D a j = N j := by
  unfold e1N e1D e1P
  by_cases e : N (12 + 10 * a + 3) = 0
  · rw [if_pos e, if_pos e, if_pos e]
    exact ⟨w.mono (by omega), e, fun _ _ => rfl⟩
  · rw [if_neg e, if_neg e, if_neg e]
    exact ⟨wf_ends w hb ha (by omega), en_h3 w ha (by omega)⟩
def e2P (N : Nat → Nat) (a : Nat) (P : Nat → Nat) : Nat → Nat := if ff N a 61 0 = N 11 then P else fiP P (ff N a 61 0)
theorem wf_fl (w : WF N D P b) {a : Nat} (ha : a < N 0) (h3 : N (12 + 10 * a + 3) = 0) : WF (flN N a) (flD N D a) (e2P N a P) b ∧ (flN N a (12 + 10 * a + 3) ≠ 0 → flN N a (12 + 10 * a + 8) = 1) ∧ ∀ j, j ≤ 3 → flN N a j = N j := by
  unfold flN flD e2P
  by_cases e : ff N a 61 0 = N 11
  · rw [if_pos e, if_pos e, if_pos e]
    exact ⟨w, fun z => absurd h3 z, fun _ _ => rfl⟩
  · rw [if_neg e, if_neg e, if_neg e]
    have fle := ff_le N a 61 0 (Nat.zero_le _)
    refine ⟨wf_fill w ha h3 _ (by omega) rfl, fun _ => up_eq _ _ _, fun j hj => ?_⟩
    unfold fiN
    rw [up_ne (by omega), up_ne (by omega), up_ne (by omega), rmP_lo (by omega), up_ne (by omega)]
def stP (N : Nat → Nat) (D : Nat → UInt64) (P : Nat → Nat) : Nat → Nat := e2P (e1N N D (stA N)) (stA N) (e1P N D (stA N) P)
theorem wf_mid (w : WF N D P b) (hb : b ≤ 20480) : WF (e2N N D (stA N)) (e2D N D (stA N)) (stP N D P) (b + 1) ∧ (e2N N D (stA N) (12 + 10 * stA N + 3) ≠ 0 → e2N N D (stA N) (12 + 10 * stA N + 8) = 1) ∧ ∀ j, j ≤ 3 → e2N N D (stA N) j = N j := by
  have g := w.1
  have sA : stA N < N 0 := Nat.mod_lt _ (by have := g.1; omega)
  obtain ⟨w1, h3, n1⟩ := wf_e1 w hb sA
  have n0 := n1 0 (by decide)
  obtain ⟨w2, h8, n2⟩ := wf_fl w1 (a := stA N) (by omega) h3
  exact ⟨w2, h8, fun j hj => (n2 j hj).trans (n1 j hj)⟩
theorem wf_step (w : WF N D P b) (hb : b ≤ 20480) : WF (stN N D) (stD N D) (stP N D P) (b + 1) := by
  have g := w.1
  obtain ⟨w2, h8, n2⟩ := wf_mid w hb
  have sA : stA (e2N N D (stA N)) = stA N := by
    show e2N N D (stA N) 1 % e2N N D (stA N) 0 = stA N
    rw [n2 0 (by decide), n2 1 (by decide)]; rfl
  have h := wf_leak w2 (by rw [sA]; exact h8) (by rw [n2 1 (by decide)]; have := g.2.2.1; omega)
  rw [sA, n2 0 (by decide)] at h
  exact h
theorem WF.lk (w : WF N D P b) (hh : h < N 0) : LK N D h := by
  intro q
  obtain ⟨⟨g0, g8, g1, g2, -⟩, -, -, wo, -, -, wq, -⟩ := id w
  obtain ⟨o1, o2, o3, o4, o5, o6⟩ := wo h hh q
  obtain ⟨q0, q1, q2, q3, -⟩ := wq (N (12 + 10 * h + 3) - 1) (by omega)
  exact ⟨by omega, o3, o5 _ (by omega), q1, q2, q3⟩
theorem WF.fk (w : WF N D P b) (hh : h < N 0) : FK N h := by
  obtain ⟨⟨g0, g8, g1, g2, -⟩, -, wh, -, -, -, wq, ⟨L0, L1, L2⟩, -⟩ := id w
  refine ⟨L0, (wh h hh).2.1, fun k hk => ?_⟩
  obtain ⟨l1, l2, l3⟩ := L1 k hk
  obtain ⟨q0, q1, q2, q3, q4, q5, q6, q7, -⟩ := wq _ l1
  exact ⟨by omega, q0, by omega⟩
theorem WF.st (w : WF N D P b) (hb : b ≤ 20480) : ST N D := by
  obtain ⟨⟨g0, g8, g1, g2, g31, g3, -⟩, -, wh, wo, -, -, wq, L, -⟩ := id w
  have sA : stA N < N 0 := Nat.mod_lt _ (by omega)
  obtain ⟨w1, h3, n1⟩ := wf_e1 w hb sA
  obtain ⟨w2, h8, n2⟩ := wf_mid w hb
  refine ⟨g0, g8, by omega, fun q => ?_, w1.fk (by rw [n1 0 (by decide)]; exact sA), n2 0 (by decide), fun h hh q => ?_, fun h hh _ => w2.lk (by rw [n2 0 (by decide)]; exact hh)⟩
  · obtain ⟨o1, o2, o3, o4, o5, o6⟩ := wo _ sA q
    obtain ⟨a0, a1, a2, a3, a4, a5, a6, a7, a8⟩ := wh _ sA
    obtain ⟨q0, q1, q2, q3, q4, q5, q6, q7, -⟩ := wq (N (12 + 10 * stA N + 3) - 1) (by omega)
    have t8 := w.t8 sA q
    exact ⟨by omega, o3, t8.2, o5 0 (by omega), o5 _ (by omega), q3, ⟨_, Nat.le_trans a3 hb, a7⟩, a8, a0, by omega, by omega, by omega, w.n11 sA q⟩
  · have := w2.t8 (h := h) (by rw [n2 0 (by decide)]; exact hh) q
    omega
theorem c_step {K : Int32 → Mem → Prop} (cr : CR M c N D P) (w : WF N D P b) (hb : b ≤ 20480) (H : ∀ M', CR M' c (stN N D) (stD N D) (stP N D P) → OnC c M M' → K (nI (stE N)) M') : w_X0_step (448 + zz) M c K := by
  obtain ⟨⟨g0, g8, g1, g2, g31, g3, g4, g5⟩, -, wh, wo, wz, wd, wq, L, -⟩ := id w
  obtain ⟨S, ⟨s1, s2, s3, s4, s5⟩, cq, ch, cd, pc, pa⟩ := id cr
  have sA : stA N < N 0 := Nat.mod_lt _ (by omega)
  have C := S.1
  have cpos := C.pos
  obtain ⟨w1, h3, n1⟩ := wf_e1 w hb sA
  obtain ⟨w2, h8, n2⟩ := wf_mid w hb
  obtain ⟨a, ha⟩ : ∃ a, a = stA N := ⟨_, rfl⟩
  have s5 : gI M c 9 = nI a := by rw [ha]; exact s5
  have st8 : ∀ {N : Nat → Nat} {D : Nat → UInt64} {P : Nat → Nat} {b : Nat}, WF N D P b → ∀ h, h < N 0 → N (12 + 10 * h + 3) ≠ 0 → N (12 + 10 * h + 8) - 1 < 10 := fun w h hh q => by have := w.t8 hh q; omega
  have hst : ∀ {N : Nat → Nat} {D : Nat → UInt64} {P : Nat → Nat} {b : Nat}, WF N D P b → ∀ q, q < N 2 → N (92 + 8 * q + 3) ≤ 3 := fun w q hq => (w.2.2.2.2.2.2.1 q hq).2.2.2.2.1
  rw [← ha] at sA w1 h3 n1 w2 h8 n2
  refine ⟨kc0 (zz := zz) C, ?_⟩
  rw [s5]
  refine c_headY S s2 g8 a sA (cN (by omega) ?_)
  have tail : ∀ (M1 : Mem) (x5 : Int32), x5 = nI (stE N) → CR M1 c (e1N N D a) (e1D N D a) (e1P N D a P) → OnC c M M1 → w_X0_load (448 + zz) M1 c (c + 5 + a) (fun M6 => w_X0_leakAwayFrom (448 + zz) M6 c (c + 5 + a) (fun M7 => (∀ M8, M8 = sI M7 c 8 ((gI M7 c 8) + (1 : Int32)) → (((gI M8 c 6) ≤ ((gI M8 c 9) + (1 : Int32)) → (∀ M9, M9 = sI M8 c 9 (0 : Int32) → (narrow .boolean (.int x5) = .int x5 ∧ K x5 M9))) ∧ (¬ (gI M8 c 6) ≤ ((gI M8 c 9) + (1 : Int32)) → (∀ M10, M10 = sI M8 c 9 ((gI M8 c 9) + (1 : Int32)) → (narrow .boolean (.int x5) = .int x5 ∧ K x5 M10))))))) := by
    intro M1 x5 hx cr1 o1
    have v0 := n1 0 (by decide)
    have v2 := n1 2 (by decide)
    have f1 := w1.fk (h := a) (by omega)
    refine c_load cr1 (by omega) (by omega) (by omega) (st8 w1) w1.2.2.2.2.2.2.2.1 (hst w1) f1.2.1 (fun q hq => ?_) (fun M2 P2 cr2 hP2 o2 => ?_)
    · obtain ⟨q0, q1, q2, q3, q4, q5, q6, q7, -⟩ := w1.2.2.2.2.2.2.1 q hq
      exact ⟨q0, by omega⟩
    · have cr2 : CR M2 c (e2N N D a) (e2D N D a) P2 := cr2
      have u0 := n2 0 (by decide)
      have u2 := n2 2 (by decide)
      refine c_leak cr2 a (by omega) (by omega) (by omega) (fun h h1 h2 => w2.2.2.2.2.1 h h1 h2 3 (by decide)) (fun h hh _ => w2.lk hh) (fun h hh => ?_) ?_
      · by_cases q : e2N N D a (12 + 10 * h + 3) = 0
        · omega
        · exact (w2.2.2.2.1 h hh q).1
      · have cr3 := cr_leak cr2 a (by omega) (by omega) (fun h hh q => by have := w2.t8 hh q; omega)
        have o3 := onC_lw (M := M2) (c := c) (N := e2N N D a) (D := e2D N D a) a
        obtain ⟨M3, hM3⟩ : ∃ M3, M3 = lwM M2 c (e2N N D a) (e2D N D a) a := ⟨_, rfl⟩
        rw [← hM3] at cr3 o3 ⊢
        obtain ⟨S3, ⟨y1, y2, y3, y4, y5⟩, cq3, ch3, cd3, pc3, pa3⟩ := cr3
        have l0 : lkN (e2N N D a) a (e2N N D a 0) 0 = N 0 := by rw [lkN_ne _ _ _ _ (by omega)]; exact u0
        have l1 : lkN (e2N N D a) a (e2N N D a 0) 1 = N 1 := by rw [lkN_ne _ _ _ _ (by omega)]; exact n2 1 (by decide)
        have l2 : lkN (e2N N D a) a (e2N N D a 0) 2 = N 2 := by rw [lkN_ne _ _ _ _ (by omega)]; exact u2
        have hP : P2 = stP N D P := by rw [hP2]; unfold stP e2P; rw [← ha]
        rw [hP] at pc3
        rw [u0] at y1 y2 y3 y4 y5 l0 l1 l2 cq3 ch3 cd3 pc3 pa3
        rw [l0] at y2 y5
        rw [l1] at y4 y5
        have ea : N 1 % N 0 = a := ha.symm
        rw [ea] at y5
        have fin : ∀ z, z = nI ((N 1 + 1) % N 0) → K x5 (sI (sI M3 c 8 (gI M3 c 8 + 1)) c 9 z) := by
          intro z hz
          rw [hx]
          refine H _ ?_ (((o1.trans o2).trans o3).trans ((onC_I (by omega) (by omega)).trans (onC_I (by omega) (by omega))))
          have en : ∀ j, j ≠ 1 → stN N D j = lkN (e2N N D a) a (N 0) j := fun j hj => by unfold stN; rw [← ha]; exact inc_ne hj
          have e1 : stN N D 1 = N 1 + 1 := by unfold stN; rw [← ha, inc_eq, l1]
          have eD : stD N D = lkD (e2N N D a) (e2D N D a) a (N 0) := by unfold stD; rw [← ha]
          have mI : ∀ r k, r ≠ c → gI (sI (sI M3 c 8 (gI M3 c 8 + 1)) c 9 z) r k = gI M3 r k := fun r k q => by rw [gI_ne (Or.inl q), gI_ne (Or.inl q)]
          rw [eD]
          refine ⟨S3.to (fun h hh => mI _ _ (by omega)) (fun p hp => mI _ _ (by omega)) (fun _ _ _ _ => rfl) rfl, ?_, ?_, ?_, ?_, ?_, ?_⟩
          · unfold CS
            rw [gI_ne (Or.inr (by decide)), gI_ne (Or.inr (by decide)), gI_ne (Or.inr (by decide)), gI_ne (Or.inr (by decide)), gI_ne (Or.inr (by decide)), gI_ne (Or.inr (by decide)), gI_ne (Or.inr (by decide)), gI_eq, gI_eq, y4, nI_1, en 3 (by decide), en 0 (by decide), en 2 (by decide), e1, l0]
            exact ⟨y1, y2, y3, rfl, hz⟩
          · exact cq3
          · intro h hh
            have x := ch3 h hh
            unfold HI at x ⊢
            rw [mI _ _ (by omega), mI _ _ (by omega), mI _ _ (by omega), mI _ _ (by omega), mI _ _ (by omega), mI _ _ (by omega), mI _ _ (by omega), mI _ _ (by omega), en _ (by omega), en _ (by omega), en _ (by omega), en _ (by omega), en _ (by omega), en _ (by omega), en _ (by omega), en _ (by omega)]
            exact x
          · intro h hh
            rw [en 0 (by decide)] at hh
            have x := cd3 h hh
            unfold HD at x ⊢
            rw [mI _ _ (by omega), en _ (by omega), en _ (by omega)]
            exact x
          · intro q hq
            rw [en 2 (by decide)] at hq
            have x := pc3 q hq
            unfold PC at x ⊢
            rw [mI _ _ (by omega), mI _ _ (by omega), mI _ _ (by omega), mI _ _ (by omega), mI _ _ (by omega), mI _ _ (by omega), mI _ _ (by omega), mI _ _ (by omega), mI _ _ (by omega), en _ (by omega), en _ (by omega), en _ (by omega), en _ (by omega), en _ (by omega), en _ (by omega), en _ (by omega), en _ (by omega)]
            exact x
          · intro q hq h6
            rw [en 2 (by decide)] at hq
            have x := pa3 q hq h6
            unfold PA at x ⊢
            rw [mI _ _ (by omega), mI _ _ (by omega), mI _ _ (by omega)]
            exact x
        have nb : narrow .boolean (.int x5) = .int x5 := by
          rw [hx]; unfold stE
          split <;> rfl
        refine m_eq ?_
        rw [show gI (sI M3 c 8 (gI M3 c 8 + 1)) c 6 = gI M3 c 6 from gI_ne (Or.inr (by decide)), show gI (sI M3 c 8 (gI M3 c 8 + 1)) c 9 = gI M3 c 9 from gI_ne (Or.inr (by decide)), y2, y5, nI_1]
        have ms := mod_s (n := N 1) g0
        rw [ea] at ms
        refine pk_le (N 0) (a + 1) (fun z => m_eq ⟨nb, fin 0 ?_⟩) (fun z => m_eq ⟨nb, fin _ ?_⟩)
        · rw [ms, if_neg (by omega)]; rfl
        · rw [ms, if_pos (by omega)]
  by_cases q : N (12 + 10 * a + 3) = 0
  · refine c_endTest0 cr (by omega) q (tail M 0 ?_ ?_ (OnC.rf c M))
    · unfold stE; rw [← ha, if_pos q]; rfl
    · unfold e1N e1D e1P; rw [if_pos q, if_pos q, if_pos q]; exact cr
  · obtain ⟨p, hp⟩ : ∃ p, N (12 + 10 * a + 3) = p + 1 := ⟨N (12 + 10 * a + 3) - 1, by omega⟩
    obtain ⟨t, ht⟩ : ∃ t, N (12 + 10 * a + 8) = t + 1 := ⟨N (12 + 10 * a + 8) - 1, by have := w.t8 sA q; omega⟩
    obtain ⟨o1, o2, o3, o4, o5, o6⟩ := wo a sA q
    obtain ⟨a0, a1, a2, a3, a4, a5, a6, a7, a8⟩ := wh a sA
    have t8 := w.t8 sA q
    rw [hp, Nat.add_sub_cancel] at o2
    obtain ⟨q0, q1, q2, q3, q4, q5, q6, q7, -⟩ := wq p (by omega)
    refine c_endTest1 cr sA (by omega) g0 g8 g2 (st8 w) o2 hp ht (by omega) (o5 0 (by omega)) (o5 t (by omega)) q3 _ a7 (Nat.le_trans a3 hb) a8 a0 (by omega) (by omega) q6 (w.n11 sA q) (hst w) (fun M1 cr1 o1 => tail M1 1 ?_ ?_ o1)
    · unfold stE; rw [← ha, if_neg q]; rfl
    · unfold e1N e1D e1P
      rw [if_neg q, if_neg q, if_neg q, show N (12 + 10 * a + 3) - 1 = p by omega, show N (12 + 10 * a + 8) - 1 = t by omega]
      exact cr1

