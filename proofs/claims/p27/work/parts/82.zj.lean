/-! p27, 13: commands, runs, adds -/
variable {zz : Nat}
variable {M M' A : Mem} {b b' c h p k k' tl tl' n : Nat} {s s' z z' : S3} {Hs Hs' : Nat → S3} {f f' : Bool} {q tx tx' : Nat → Nat} {N N' P : Nat → Nat} {D D' : Nat → UInt64}
theorem en_4 (w : WF N D P b) {t : Nat} (hh : h < N 0) (h3 : N (12 + 10 * h + 3) = p + 1) : enN N D h p t 4 = N 4 + 1 := by
  obtain ⟨⟨g0, g8, g1, g2, g31, g3, g4, g5⟩, r, wh, wo, wz, wd, wq, L, -⟩ := id w
  obtain ⟨o1, o2, o3, o4, o5, o6⟩ := wo h hh (by omega)
  have hs := jd_le (eA0 N h p) (eD0 N D h p t) h t (vl N D h p t)
  change eJ N D h p t = 0 ∨ eJ N D h p t = 1 ∨ eJ N D h p t = 2 ∨ eJ N D h p t = 13 ∨ eJ N D h p t = 14 at hs
  unfold enN
  split
  · simp (disch := omega) only [enA, enR, enT, rjN, tfN, eA, eA0, up_eq, up_ne, inc_eq, inc_ne, shN_lo]
  · split
    · have : eJ N D h p t % 10 ≤ 5 := by omega
      have : eJ N D h p t % 10 ≠ 0 := by omega
      simp (disch := omega) only [enA, enR, enT, rjN, tfN, eA, eA0, up_eq, up_ne, inc_eq, inc_ne, shN_lo]
    · simp (disch := omega) only [enA, enR, enT, rjN, tfN, eA, eA0, up_eq, up_ne, inc_eq, inc_ne, shN_lo]
theorem fl_4 (w : WF N D P b) {a : Nat} (ha : a < N 0) : flN N a 4 = N 4 := by
  have g8 := w.1.2.1
  have L := w.2.2.2.2.2.2.2.1
  unfold flN
  by_cases h : ff N a 61 0 = N 11
  · rw [if_pos h]
  · rw [if_neg h]
    unfold fiN
    rw [up_ne (by omega), up_ne (by omega), up_ne (by omega), rmP_lo (by omega), up_ne (by omega)]
theorem st_facts (w : WF N D P b) (hb : b ≤ 20480) : stN N D 0 = N 0 ∧ stN N D 1 = N 1 + 1 ∧ stN N D 4 = N 4 + stE N := by
  have g0 := w.1.1
  have g8 := w.1.2.1
  have sA : stA N < N 0 := Nat.mod_lt _ (by omega)
  obtain ⟨w1, h3, j1⟩ := wf_e1 w hb sA
  obtain ⟨w2, t8, j2⟩ := wf_fl w1 (a := stA N) (by rw [j1 0 (by decide)]; exact sA) h3
  have k : ∀ j, j ≤ 3 → e2N N D (stA N) j = N j := fun j hj => (j2 j hj).trans (j1 j hj)
  unfold stN
  refine ⟨?_, ?_, ?_⟩
  · rw [inc_ne (by decide), lkN_ne _ _ _ _ (by omega), k 0 (by decide)]
  · rw [inc_eq, lkN_ne _ _ _ _ (by omega), k 1 (by decide)]
  · rw [inc_ne (by decide), lkN_ne _ _ _ _ (by omega)]
    have f4 := fl_4 w1 (a := stA N) (by rw [j1 0 (by decide)]; exact sA)
    show flN (e1N N D (stA N)) (stA N) 4 = _
    rw [f4]
    unfold e1N stE
    by_cases y : N (12 + 10 * stA N + 3) = 0
    · rw [if_pos y, if_pos y]; rfl
    · rw [if_neg y, if_neg y]
      exact en_4 w sA (by omega)
theorem it_facts (w : WFs s b) : ∀ n, b + n ≤ 20481 → (itT s n).1 0 = s.1 0 ∧ (itT s n).1 1 = s.1 1 + n ∧ (itT s n).1 4 = s.1 4 + (itS s.1 s.2.1 n).2.2 := by
  intro n
  induction n with
  | zero => intro _; exact ⟨rfl, rfl, rfl⟩
  | succ n ih =>
    intro hb
    obtain ⟨i0, i1, i4⟩ := ih (by omega)
    obtain ⟨a0, a1, a4⟩ := st_facts (wf_it w n (by omega)) (show b + n ≤ 20480 by omega)
    have e4 : (itS s.1 s.2.1 (n + 1)).2.2 = (itS s.1 s.2.1 n).2.2 + stE (itT s n).1 := rfl
    refine ⟨a0.trans i0, ?_, ?_⟩
    · have : (itT s (n + 1)).1 1 = (itT s n).1 1 + 1 := a1
      rw [this, i1]; omega
    · have : (itT s (n + 1)).1 4 = (itT s n).1 4 + stE (itT s n).1 := a4
      rw [this, i4, e4]; omega
theorem it_add (s : S3) (a : Nat) : ∀ b, itT (itT s a) b = itT s (a + b) ∧ (itS s.1 s.2.1 (a + b)).2.2 = (itS s.1 s.2.1 a).2.2 + (itS (itT s a).1 (itT s a).2.1 b).2.2 := by
  intro b
  induction b with
  | zero => exact ⟨rfl, rfl⟩
  | succ b ih =>
    obtain ⟨i1, i2⟩ := ih
    have e1 : (itS (itT s a).1 (itT s a).2.1 b).1 = (itS s.1 s.2.1 (a + b)).1 := congrArg (fun x : S3 => x.1) i1
    have e2 : (itS (itT s a).1 (itT s a).2.1 b).2.1 = (itS s.1 s.2.1 (a + b)).2.1 := congrArg (fun x : S3 => x.2.1) i1
    have e3 : itP (itT s a).1 (itT s a).2.1 (itT s a).2.2 b = itP s.1 s.2.1 s.2.2 (a + b) := congrArg (fun x : S3 => x.2.2) i1
    constructor
    · show (stN _ _, stD _ _, stP _ _ _) = (stN _ _, stD _ _, stP _ _ _)
      rw [e1, e2, e3]
      rfl
    · show (itS s.1 s.2.1 (a + b)).2.2 + stE (itS s.1 s.2.1 (a + b)).1 = (itS s.1 s.2.1 a).2.2 + ((itS (itT s a).1 (itT s a).2.1 b).2.2 + stE (itS (itT s a).1 (itT s a).2.1 b).1)
      rw [e1, i2]; omega
/-- the heads are cleared, all parts of theirs wait -/
theorem cl_11 (N : Nat → Nat) (e : Nat) (he : e ≤ 8) : ∀ d, d ≤ e → clN N e d 11 + cH N (e - d) = N 11 + cH N e := by
  intro d
  induction d with
  | zero => intro _; rfl
  | succ d ih =>
    intro hd
    have i := ih (by omega)
    have ed : e - d = (e - (d + 1)) + 1 := by omega
    rw [ed] at i
    have ch : cH N ((e - (d + 1)) + 1) = cH N (e - (d + 1)) + (if N (12 + 10 * (e - (d + 1)) + 3) = 0 then 0 else 1) := rfl
    rw [ch] at i
    have eq : e - 1 - d = e - (d + 1) := by omega
    unfold clN
    rw [eq]
    by_cases z : N (12 + 10 * (e - (d + 1)) + 3) = 0
    · rw [if_pos z] at i ⊢; omega
    · rw [if_neg z] at i ⊢
      rw [up_ne (by omega)]
      unfold tfN
      rw [up_ne (by omega), inc_eq, up_ne (by omega), shN_lo (by omega)]
      omega
theorem cl_hd0 (N : Nat → Nat) (e : Nat) (he : e ≤ 8) (p60 : ∀ h, h < e → N (12 + 10 * h + 3) ≤ 60) : ∀ d, d ≤ e → ∀ h, e - d ≤ h → h < e → clN N e d (12 + 10 * h + 3) = 0 := by
  intro d
  induction d with
  | zero => intro _ h h1 h2; omega
  | succ d ih =>
    intro hd h h1 h2
    have eq : e - 1 - d = e - (d + 1) := by omega
    unfold clN
    rw [eq]
    by_cases z : N (12 + 10 * (e - (d + 1)) + 3) = 0
    · rw [if_pos z]
      by_cases y : h = e - (d + 1)
      · rw [clN_hd N e h 3 (by omega) (by decide) d (by omega) p60, y]; exact z
      · exact ih (by omega) h (by omega) h2
    · rw [if_neg z]
      have := p60 (e - (d + 1)) (by omega)
      by_cases y : h = e - (d + 1)
      · rw [y, up_eq]
      · rw [up_ne (by omega)]
        unfold tfN
        rw [up_ne (by omega), inc_ne (by omega), up_ne (by omega), shN_lo (by omega)]
        exact ih (by omega) h (by omega) h2
theorem cmd_ch : ∀ w, w < 4 → ∀ i, i < lnN w → (Int32.toUInt32 (nI (chN w i)) % 65536).toInt32 = nI (chN w i) := by decide +kernel
theorem cmd_len : ∀ w, w < 4 → lnN w ≤ 5 ∧ 4 ≤ lnN w ∧ (if nI w = (3 : Int32) then (5 : Int32) else (4 : Int32)) = nI (lnN w) ∧ ∀ i, i < lnN w → chN w i < 128 := by decide +kernel
theorem z_cmd182 {K : Int32 → Mem → Prop} {J : Mem → Nat → Int32 → Int32 → Prop} (I : CI M b s Hs k z f q tl tx) (w i : Nat) (hw : w < 4) (hi : i < lnN w) (ht : tl = i) (H : ∀ M', CI M' b s Hs k z f q (i + 1) (putT tx i (chN w i)) → J M' 1 (nI w) (nI (i + 1))) (x : Int32) (hx : x = nI (chN w i)) : w_L_command_L182 (448 + zz) K J M 1 (nI w) (nI i) x := by
  obtain ⟨l5, l4, -, c128⟩ := cmd_len w hw
  have := c128 i hi
  subst ht
  refine ⟨k1 (zz := zz), ?_⟩
  rw [hx, cmd_ch w hw tl hi]
  refine z_type I (chN w tl) (by omega) (by omega) (fun M1 I1 => m_eq ?_)
  rw [nI_1]
  exact H M1 I1
theorem z_cmd9 {K : Int32 → Mem → Prop} (w : Nat) (hw : w < 4) (H : ∀ M' tl' tx', CI M' b s Hs k z f q tl' tx' → WDt w tl' tx' → w_X5_perform (448 + zz) M' 1 K) : ∀ r i f2 M tx, i + r = lnN w → r < f2 → CI M b s Hs k z f q i tx → (∀ j, j < i → tx j = chN w j) → w_L_command_L9 (448 + zz) K f2 M 1 (nI w) (nI i) := by
  obtain ⟨l5, l4, lx, c128⟩ := cmd_len w hw
  intro r
  induction r with
  | zero =>
    intro i f2 M tx hi hf I ht
    obtain ⟨f3, rfl⟩ : ∃ f3, f2 = f3 + 1 := ⟨f2 - 1, by omega⟩
    refine m_eq ?_
    rw [lx]
    refine pk_le (lnN w) i (fun _ => ⟨k1 (zz := zz), H M i tx I ⟨by omega, fun j hj => ht j (by omega)⟩⟩) (fun _ => by omega)
  | succ r ih =>
    intro i f2 M tx hi hf I ht
    obtain ⟨f3, rfl⟩ : ∃ f3, f2 = f3 + 1 := ⟨f2 - 1, by omega⟩
    refine m_eq ?_
    rw [lx]
    refine pk_le (lnN w) i (fun _ => by omega) (fun _ => ?_)
    have hi' : i < lnN w := by omega
    have nx : ∀ j, j < i + 1 → putT tx i (chN w i) j = chN w j := fun j hj => by
      by_cases e : j = i
      · rw [e]; exact up_eq _ _ _
      · rw [show putT tx i (chN w i) j = tx j from up_ne e]; exact ht j (by omega)
    have fin : ∀ x : Int32, x = nI (chN w i) → w_L_command_L182 (448 + zz) K (w_L_command_L9 (448 + zz) K f3) M 1 (nI w) (nI i) x := z_cmd182 I w i hw hi' rfl (fun M1 I1 => ih (i + 1) f3 M1 _ (by omega) (by omega) I1 nx)
    clear ih H
    rcases (show w = 0 ∨ w = 1 ∨ w = 2 ∨ w = 3 by omega) with rfl | rfl | rfl | rfl
    · have : lnN 0 = 4 := rfl
      refine cP rfl ?_
      rcases (show i = 0 ∨ i = 1 ∨ i = 2 ∨ i = 3 by omega) with rfl | rfl | rfl | rfl
      · exact cP rfl (fin _ (by decide +kernel))
      · exact cN (by decide) (cP rfl (fin _ (by decide +kernel)))
      · exact cN (by decide) (cN (by decide) (m_eq (fin _ (by decide +kernel))))
      · exact cN (by decide) (cN (by decide) (m_eq (fin _ (by decide +kernel))))
    · have : lnN 1 = 4 := rfl
      refine cN (by decide) (cP rfl ?_)
      rcases (show i = 0 ∨ i = 1 ∨ i = 2 ∨ i = 3 by omega) with rfl | rfl | rfl | rfl
      · exact cP rfl (fin _ (by decide +kernel))
      · exact cN (by decide) (cP rfl (fin _ (by decide +kernel)))
      · exact cN (by decide) (cN (by decide) (m_eq (fin _ (by decide +kernel))))
      · exact cN (by decide) (cN (by decide) (m_eq (fin _ (by decide +kernel))))
    · have : lnN 2 = 4 := rfl
      refine cN (by decide) (cN (by decide) (cP rfl ?_))
      rcases (show i = 0 ∨ i = 1 ∨ i = 2 ∨ i = 3 by omega) with rfl | rfl | rfl | rfl
      · exact cP rfl (fin _ (by decide +kernel))
      · exact cN (by decide) (cP rfl (fin _ (by decide +kernel)))
      · exact cN (by decide) (cN (by decide) (m_eq (fin _ (by decide +kernel))))
      · exact cN (by decide) (cN (by decide) (m_eq (fin _ (by decide +kernel))))
    · have : lnN 3 = 5 := rfl
      refine cN (by decide) (cN (by decide) (cN (by decide) ?_))
      rcases (show i = 0 ∨ i = 1 ∨ i = 2 ∨ i = 3 ∨ i = 4 by omega) with rfl | rfl | rfl | rfl | rfl
      · exact cP rfl (fin _ (by decide +kernel))
      · exact cN (by decide) (cP rfl (fin _ (by decide +kernel)))
      · exact cN (by decide) (cN (by decide) (cP rfl (fin _ (by decide +kernel))))
      · exact cN (by decide) (cN (by decide) (cN (by decide) (m_eq (fin _ (by decide +kernel)))))
      · exact cN (by decide) (cN (by decide) (cN (by decide) (m_eq (fin _ (by decide +kernel)))))
theorem z_command {K : Int32 → Mem → Prop} (I : CI M b s Hs k z f q tl tx) (w : Nat) (hw : w < 4) (H : ∀ M' tl' tx', CI M' b s Hs k z f q tl' tx' → WDt w tl' tx' → w_X5_perform (448 + zz) M' 1 K) : w_L_command (448 + zz) M 1 (nI w) K := by
  obtain ⟨l5, l4, lx, c128⟩ := cmd_len w hw
  exact ⟨k1 (zz := zz), z_clearText I (fun M1 v I1 => z_cmd9 w hw H (lnN w) 0 4000 M1 tx (by omega) (by omega) I1 (fun j hj => by omega))⟩
theorem z_commands {K : Int32 → Mem → Prop} (I : CI M b s Hs k z f q tl tx) (e : WEs s) (he : ∀ i, i < k → WEs (Hs i)) (hb : b + 40 ≤ 20480) (w : Nat) (hw : w < 4) (H : ∀ M', EV M' (b + 8) s Hs k → K 1 M') : w_L_commands (448 + zz) M 1 (nI w) K := by
  have w0 := I.2.2.2.1.2
  have g8 := w0.n.1
  have g60 := w0.n.2
  have g2 := w0.1.1
  have k0 := w0.2.2.2.2.2.2.2.2.1
  have k11 := w0.2.2.2.2.2.2.2.2.2.1
  have c3 : cT_ s 3 = s.1 11 := k0
  have c4 : cT_ s 4 = cH s.1 (s.1 0) := k11
  have c14 : cT_ s 14 = s.1 10 := rfl
  have L11 := w0.2.2.2.2.2.2.2.1.1
  refine ⟨k1 (zz := zz), z_count I 0 (by decide) (z_count I 1 (by decide) (z_count I 7 (by decide) (z_count I 3 (by decide) (z_count I 4 (by decide) (z_count I 14 (by decide) (z_command I w hw (fun M1 tl1 tx1 I1 W1 => ?_)))))))⟩
  rw [c3, c4, c14]
  rcases (show w = 0 ∨ w = 1 ∨ w = 2 ∨ w = 3 by omega) with rfl | rfl | rfl | rfl
  · refine z_perf0 I1 W1 (by omega) (fun M2 q2 I2 => cF (by decide) (z_count I2 1 (by decide) (m_eq ?_)))
    obtain ⟨i0, i1, i4⟩ := it_facts w0 1 (by omega)
    rw [if_pos (show nI 0 = 0 from rfl)]
    refine cP ?_ (z_count I2 7 (by decide) (cP ?_ (H M2 (EV.yes (I2.mono (by omega)) I.k4 e he (we_it w0 e 1 (by omega))))))
    · show nI ((itT s 1).1 1) = nI (s.1 1) + 1
      rw [i1, nI_1]
    · show nI (itS s.1 s.2.1 1).2.2 = nI ((itT s 1).1 4) - nI (s.1 4)
      rw [i4, pk_sub (by omega)]
      congr 1
      omega
  · refine z_perf1 I1 W1 (by omega) (fun M2 q2 I2 => cF (by decide) (z_count I2 1 (by decide) (m_eq ?_)))
    obtain ⟨i0, i1, i4⟩ := it_facts w0 (s.1 0) (by omega)
    rw [if_neg (show ¬ nI 1 = 0 by decide)]
    refine cP ?_ (z_count I2 7 (by decide) (cP ?_ (H M2 (EV.yes (I2.mono (by omega)) I.k4 e he (we_it w0 e (s.1 0) (by omega))))))
    · show nI ((itT s (s.1 0)).1 1) = nI (s.1 1) + nI (s.1 0)
      rw [i1, nI_add]
    · show nI (itS s.1 s.2.1 (s.1 0)).2.2 = nI ((itT s (s.1 0)).1 4) - nI (s.1 4)
      rw [i4, pk_sub (by omega)]
      congr 1
      omega
  · refine z_perf2 I1 W1 (fun h0 => cT (by decide) (cP rfl (m_eq (cP ?_ (z_count I1 3 (by decide) (cP ?_ (z_count I1 14 (by decide) (cP ?_ (H M1 (EV.no (I1.mono (by omega)) e he)))))))))) (fun hn M2 q2 I2 => cT (by decide) (cP rfl (m_eq (cP ?_ (z_count I2 3 (by decide) (cP ?_ (z_count I2 14 (by decide) (cP ?_ (H M2 (EV.yes (I2.mono (by omega)) I.k4 e he (we_stop w0 e)))))))))))
    · rw [h0]; rfl
    · rw [c3, h0]; rfl
    · rw [c14, h0]; exact (nI_add _ 0).symm
    · rw [if_neg (nI_ne0 (by omega) (by omega))]
    · obtain ⟨a1, a2, a3, a4⟩ := stp_all w0.2.2.2.2.2.2.2.1 g60
      have k0' := (wf_stop w0).2.2.2.2.2.2.2.2.1
      show nI (cS (stpN s.1) 0 (stpN s.1 2)) = 0
      rw [k0', a3]; rfl
    · obtain ⟨a1, a2, a3, a4⟩ := stp_all w0.2.2.2.2.2.2.2.1 g60
      show nI (stpN s.1 10) = nI (s.1 10) + nI (s.1 11)
      rw [a2, nI_add]
  · have wc := wf_cl w0 (s.1 0) (Nat.le_refl _)
    have z0 := clN_lo s.1 (s.1 0) 0 (by decide) (s.1 0)
    have z1 := clN_lo s.1 (s.1 0) 1 (by decide) (s.1 0)
    have p60 : ∀ h, h < s.1 0 → s.1 (12 + 10 * h + 3) ≤ 60 := fun h hh => by
      by_cases z : s.1 (12 + 10 * h + 3) = 0
      · omega
      · have := (w0.2.2.2.1 h hh z).1; omega
    have ch8 : ∀ n, cH s.1 n ≤ n := fun n => by
      induction n with
      | zero => exact Nat.le_refl _
      | succ n ih =>
        show cH s.1 n + (if s.1 (12 + 10 * n + 3) = 0 then 0 else 1) ≤ n + 1
        split <;> omega
    have ch := ch8 (s.1 0)
    refine z_perf3 I1 W1 (fun h0 => cT (by decide) (cN (by decide) (m_eq (cP ?_ (z_count I1 4 (by decide) (cP ?_ (z_count I1 3 (by decide) (cP ?_ (z_count I1 1 (by decide) (cP rfl (H M1 (EV.no (I1.mono (by omega)) e he)))))))))))) (fun hn M2 q2 I2 => cT (by decide) (cN (by decide) (m_eq (cP ?_ (z_count I2 4 (by decide) (cP ?_ (z_count I2 3 (by decide) (cP ?_ (z_count I2 1 (by decide) (cP ?_ (H M2 (EV.yes (I2.mono (by omega)) I.k4 e he (we_cl w0 e _ (Nat.le_refl _))))))))))))))
    · rw [h0]; rfl
    · rw [c4, h0]; rfl
    · rw [c3, h0]; exact (nI_add _ 0).symm
    · rw [if_neg (nI_ne0 (by omega) (by omega))]
    · have kc := wc.2.2.2.2.2.2.2.2.2.1
      show nI (cS (clN s.1 (s.1 0) (s.1 0)) 1 (clN s.1 (s.1 0) (s.1 0) 2)) = 0
      rw [kc, cH_0]
      · rfl
      · intro h hh
        rw [z0] at hh
        exact cl_hd0 s.1 (s.1 0) g8 p60 (s.1 0) (Nat.le_refl _) h (by omega) hh
    · have kc := wc.2.2.2.2.2.2.2.2.1
      show nI (cS (clN s.1 (s.1 0) (s.1 0)) 0 (clN s.1 (s.1 0) (s.1 0) 2)) = nI (s.1 11) + nI (cH s.1 (s.1 0))
      have c := cl_11 s.1 (s.1 0) g8 (s.1 0) (Nat.le_refl _)
      rw [Nat.sub_self] at c
      have c : clN s.1 (s.1 0) (s.1 0) 11 = s.1 11 + cH s.1 (s.1 0) := c
      rw [kc, nI_add, c]
    · exact congrArg nI z1
theorem z_runs {K : Int32 → Mem → Prop} (I : CI M b s Hs k z f q tl tx) (e : WEs s) (he : ∀ i, i < k → WEs (Hs i)) (hb : b + 60 ≤ 20480) (x y : Nat) (x1 : 1 ≤ x) (x2 : x ≤ 6) (y1 : 1 ≤ y) (y2 : y ≤ 6) (H : ∀ M', INE M' (b + 30) → K 1 M') : w_L_runs (448 + zz) M 1 (nI x) (nI y) K := by
  have w0 := I.2.2.2.1.2
  refine ⟨k1 (zz := zz), z_keep I (fun M1 I1 => z_count I1 7 (by decide) ?_)⟩
  rw [nI_add]
  refine z_run I1 (x + y) (by omega) (by omega) (by omega) (fun M2 q2 I2 => z_digest I2 (by omega) (z_count I2 7 (by decide) (cP ?_ ?_)))
  · obtain ⟨i0, i1, i4⟩ := it_facts w0 (x + y) (by omega)
    show nI (itS s.1 s.2.1 (x + y)).2.2 = nI ((itT s (x + y)).1 4) - nI (s.1 4)
    rw [i4, pk_sub (by omega)]
    congr 1
    omega
  refine z_restore I2 (fun M3 q3 I3 => cP rfl (z_runN _ (by decide) (cT rfl ?_)))
  have e3 := we_it w0 e (x + y) (by omega)
  have h1 := we_psT e he I.k4
  have h2 := we_psT e3 h1 (psK_le k I.k4)
  refine z_run I3 x (by omega) (by omega) (by omega) (fun M4 q4 I4 => z_run I4 y (by omega) (by omega) (by omega) (fun M5 q5 I5 => cP ?_ ?_))
  · rw [nI_add]
    exact congrArg nI (it_add s x y).2.symm
  · refine z_digest I5 (by omega) (cP ?_ (H M5 ?_))
    · rw [(it_add s x y).1]; exact lg_self _
    · have w3 := I3.2.2.2.1.2
      have w4 := I4.2.2.2.1.2
      have h3 := we_psT e h2 I3.k4
      have e4 := we_it w3 e x (by omega)
      have h4 := we_psT e4 h3 I4.k4
      exact ⟨_, _, _, ⟨_, _, _, _, _, I5.mono (by omega)⟩, we_it w4 e4 y (by omega), h4⟩
theorem z_add73 {K : Int32 → Mem → Prop} (I : CI M b s Hs k z f q tl tx) (e : WEs s) (he : ∀ i, i < k → WEs (Hs i)) (hb : b ≤ 20480) (a1 : Int32) (j u : Nat) (hj : j ≤ 99999) (u1 : 1 ≤ u) (u2 : u ≤ 999) (H : ∀ M', EV M' b s Hs k → K 1 M') : w_L_adds_L73 (448 + zz) K M 1 a1 (nI (s.1 2)) (nI j) (nI u) := by
  have w0 := I.2.2.2.1.2
  have g60 := w0.n.2
  have main : ∀ i, i ≤ 1 → (a1 &&& (1 : Int32)) = nI i → (if (a1 &&& (1 : Int32)) = (1 : Int32) then (1 : Int32) else (0 : Int32)) = nI i → w_L_adds_L73 (448 + zz) K M 1 a1 (nI (s.1 2)) (nI j) (nI u) := by
    intro i hi ha hb2
    refine m_eq ⟨k1 (zz := zz), ?_⟩
    rw [hb2]
    refine z_add I i j u hi hj u1 u2 (fun f60 => ?_) (fun l60 M1 q1 I1 => ?_)
    · exact cP (by rw [f60]; rfl) (cP rfl (H M (EV.no I e he)))
    · refine cN (fun y => by have := (nI_eq (b := 60) (by omega) (by decide)).mp y; omega) (cP rfl ?_)
      have h11 : s.1 11 < 60 := by have := WF.le11 w0; omega
      obtain ⟨d1, d2, d3, ⟨d4, d5, d6, d7⟩, d8⟩ := ad_all s.1 i j u l60 h11
      have hj1 : s.1 2 < adN s.1 i j u 2 := by rw [d1]; omega
      have fin := H M1 (EV.yes I1 I.k4 e he (we_add w0 e l60 i j u))
      refine z_part I1 (s.1 2) hj1 0 (by decide) (cP ?_ (z_part I1 (s.1 2) hj1 1 (by decide) (cP ?_ ?_)))
      rotate_left 2
      · refine z_part I1 (s.1 2) hj1 2 (by decide) (cP ?_ (z_part I1 (s.1 2) hj1 8 (by decide) (z_count I1 3 (by decide) (cP ?_ (z_addN _ _ _ (by decide) (cP rfl fin))))))
        · show nI (adN s.1 i j u (92 + 8 * s.1 2 + 2)) = _
          rw [d6]
        · have k0 := (wf_add w0 l60 i j u hi hj u1 u2).2.2.2.2.2.2.2.2.1
          show (if adN s.1 i j u (92 + 8 * s.1 2 + 3) = 0 then nI (adP s.1 s.2.2 (s.1 2)) else -5) = nI (cS (adN s.1 i j u) 0 (adN s.1 i j u 2)) - 1
          rw [k0, d2, nI_pred, d7 3 (by decide) (by decide), if_pos rfl]
          unfold adP
          rw [up_eq]
      · show nI (adN s.1 i j u (92 + 8 * s.1 2 + 0)) = _
        rw [d4, ha]
      · show nI (adN s.1 i j u (92 + 8 * s.1 2 + 1)) = _
        rw [d5]
  have h01 : (a1 &&& (1 : Int32)) = nI 0 ∨ (a1 &&& (1 : Int32)) = nI 1 := by
    have hv : (a1 &&& (1 : Int32)).toBitVec.toNat ≤ 1 := by
      have h1 : (a1 &&& (1 : Int32)).toBitVec = a1.toBitVec &&& (1 : Int32).toBitVec := rfl
      rw [h1, BitVec.toNat_and]
      exact Nat.and_le_right
    have hx : (a1 &&& (1 : Int32)) = nI (a1 &&& (1 : Int32)).toBitVec.toNat := by
      apply Int32.toBitVec_inj.mp
      show _ = BitVec.ofNat 32 _
      rw [BitVec.ofNat_toNat, BitVec.setWidth_eq]
    generalize (a1 &&& (1 : Int32)).toBitVec.toNat = v at hv hx
    rcases (show v = 0 ∨ v = 1 by omega) with rfl | rfl
    · exact Or.inl hx
    · exact Or.inr hx
  rcases h01 with h | h
  · exact main 0 (by decide) h (by rw [h]; rfl)
  · exact main 1 (by decide) h (by rw [h]; rfl)
theorem z_add46 {K : Int32 → Mem → Prop} (I : CI M b s Hs k z f q tl tx) (e : WEs s) (he : ∀ i, i < k → WEs (Hs i)) (hb : b ≤ 20480) (a1 a2 : Int32) (j : Nat) (hj : j ≤ 99999) (H : ∀ M', EV M' b s Hs k → K 1 M') : w_L_adds_L46 (448 + zz) K M 1 a1 a2 (nI (s.1 2)) (nI j) := by
  by_cases o : (4 : Int32) ≤ (a2 &&& (7 : Int32))
  · refine cT o (z_low _ 999 (by decide) (by decide) (fun v hv => m_eq ?_))
    rw [show (1 : Int32) + nI v = nI (1 + v) from nI_add 1 v]
    exact z_add73 I e he hb a1 j (1 + v) hj (by omega) (by omega) H
  · exact cF o (z_add73 I e he hb a1 j 100 hj (by decide) (by decide) H)
theorem z_adds {K : Int32 → Mem → Prop} (I : CI M b s Hs k z f q tl tx) (e : WEs s) (he : ∀ i, i < k → WEs (Hs i)) (hb : b ≤ 20480) (p2 p3 : Int32) (H : ∀ M', EV M' b s Hs k → K 1 M') : w_L_adds (448 + zz) M 1 p2 p3 K := by
  refine ⟨k1 (zz := zz), z_count I 2 (by decide) ?_⟩
  by_cases o : (p3 &&& (7 : Int32)) = 0
  · exact cP o (z_add46 I e he hb p2 p3 0 (by decide) H)
  refine cN o ?_
  by_cases o1 : (p3 &&& (7 : Int32)) = (1 : Int32)
  · exact cP o1 (z_low _ 100000 (by decide) (by decide) (fun v hv => z_add46 I e he hb p2 p3 v (by omega) H))
  · exact cN o1 (z_low _ 120 (by decide) (by decide) (fun v hv => z_add46 I e he hb p2 p3 v (by omega) H))
