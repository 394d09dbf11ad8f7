/-! THE PURE PART, 32: perform -/
variable {M M' A : Mem} {b b' c h p k k' tl tl' : Nat} {s s' z z' : S3} {Hs : Nat → S3} {f f' : Bool} {q tx tx' : Nat → Nat} {N N' P : Nat → Nat} {D D' : Nat → UInt64}
theorem wd0 : WDt 0 tl tx ↔ tl = 4 ∧ tx 0 = 115 ∧ tx 1 = 116 ∧ tx 2 = 101 ∧ tx 3 = 112 := wd_iff 0 115 116 101 112 (by decide) (by decide +kernel)
theorem wd1 : WDt 1 tl tx ↔ tl = 4 ∧ tx 0 = 116 ∧ tx 1 = 117 ∧ tx 2 = 114 ∧ tx 3 = 110 := wd_iff 1 116 117 114 110 (by decide) (by decide +kernel)
theorem wd2 : WDt 2 tl tx ↔ tl = 4 ∧ tx 0 = 115 ∧ tx 1 = 116 ∧ tx 2 = 111 ∧ tx 3 = 112 := wd_iff 2 115 116 111 112 (by decide) (by decide +kernel)
theorem y_stop {K : Int32 → Mem → Prop} (V : INV M b) (H : ∀ v M1, (∀ tl tx, TX M tl tx → TR M1 tl tx) → An (w_X6_stops 457 M1 449) v b → K v M1) : w_X5_stopWaiting 457 M 1 K := by
  obtain ⟨s, Hs, k, z, f, q, tl, tx, I, R⟩ := id V
  have w0 := I.2.2.2.1.2
  have cr0 := I.2.2.2.1.1
  have hq := cr_cS cr0 w0 0 (by decide)
  have L0 := w0.2.2.2.2.2.2.2.1.1
  have WCk := w0.2.2.2.2.2.2.2.2.1
  have txs : ∀ (X : Mem), RF X s Hs k z f tl tx → ∀ tl' tx', TX M tl' tx' → TR X tl' tx' := by
    intro X RX tl' tx' T
    obtain ⟨v0, v1, v2⟩ := RX.trr
    obtain ⟨u0, u1, u2, u3⟩ := T
    obtain ⟨i1, i2, i3⟩ := I.2.2.2.2.2.2
    refine ⟨v0, by rw [v1, ← i2, u2], fun j hj => by rw [v2 j hj, ← (i3 j hj).2, (u3 j hj).2]⟩
  refine ⟨k1, m_rR I.1.1 ⟨kc0 car2, c_partsIn cr0.1 (nI 0) ?_⟩⟩
  rw [hq, WCk]
  by_cases e : s.1 11 = 0
  · refine cP (by rw [e]; rfl) (H _ _ (txs M R) (fun K h => ⟨k449, q_r0 R.qq (q_rI R.qq 11 rfl (by decide) (cP (by rw [e]; rfl) (h M V)))⟩))
  · have n0 : ¬ nI (s.1 11) = 0 := nI_ne0 (by omega) (by omega)
    refine cN n0 (c_remember I (fun M1 q1 I1 F1 => m_rR I1.1.1 ⟨kc0 car2, c_rejectWaiting I1.2.2.2.1.1.1 ?_⟩))
    have cr := I1.2.2.2.1.1
    have wf := I1.2.2.2.1.2
    obtain ⟨u1, u2⟩ := cr_stop cr wf
    have R1 := (R.fr F1).fr (u2.fc car2)
    refine H _ _ (fun tl' tx' T => ?_) (fun K h => ⟨k449, q_r0 R1.qq (q_rI R1.qq 11 rfl (by decide) (cN n0 (r_rec R1 I.2.2.2.2.1.1 (fun M3 R3 F3 => ?_))))⟩)
    · exact txs _ R1 tl' tx' T
    · refine q_stops R3.qq (s.1 11) L0 (fun i hi => by have := (w0.2.2.2.2.2.2.2.1.2.1 i hi).1; have := w0.n.2; omega) (fun M4 Q4 => ?_)
      exact h M4 (inv_fin (s := (stpN s.1, s.2.1, s.2.2)) (I1.act u2 u1 (wf_stop wf) (Nat.le_refl b)) (R3.act Q4.2 Q4.1) (F3.trans Q4.2.fr))
theorem y_clear {K : Int32 → Mem → Prop} (V : INV M b) (H : ∀ v M1, (∀ tl tx, TX M tl tx → TR M1 tl tx) → An (w_X6_clears 457 M1 449) v b → K v M1) : w_X5_clearHeads 457 M 1 K := by
  obtain ⟨s, Hs, k, z, f, q, tl, tx, I, R⟩ := id V
  have w0 := I.2.2.2.1.2
  have cr0 := I.2.2.2.1.1
  have g8 := w0.n.1
  have g2 := w0.1.1
  have hq := cr_cS cr0 w0 1 (by decide)
  have WCk := w0.2.2.2.2.2.2.2.2.2.1
  have p60 : ∀ h, h < s.1 0 → s.1 (12 + 10 * h + 3) ≤ 60 := fun h hh => by
    have := w0.n.2
    by_cases z : s.1 (12 + 10 * h + 3) = 0
    · omega
    · have := (w0.2.2.2.1 h hh z).1; omega
  have txs : ∀ (X : Mem), RF X s Hs k z f tl tx → ∀ tl' tx', TX M tl' tx' → TR X tl' tx' := by
    intro X RX tl' tx' T
    obtain ⟨v0, v1, v2⟩ := RX.trr
    obtain ⟨u0, u1, u2, u3⟩ := T
    obtain ⟨i1, i2, i3⟩ := I.2.2.2.2.2.2
    refine ⟨v0, by rw [v1, ← i2, u2], fun j hj => by rw [v2 j hj, ← (i3 j hj).2, (u3 j hj).2]⟩
  have cle : cH s.1 (s.1 0) ≤ 60 := by
    rw [← WCk, cS_cnt]
    exact Nat.le_trans (cnt_le _ _ _) w0.n.2
  refine ⟨k1, m_rR I.1.1 ⟨kc0 car2, c_partsIn cr0.1 (nI 1) ?_⟩⟩
  rw [hq, WCk]
  by_cases e : cH s.1 (s.1 0) = 0
  · refine cP (by rw [e]; rfl) (H _ _ (txs M R) (fun K h => ⟨k449, q_onHeads R.qq g8 p60 (cP (by rw [e]; rfl) (h M V))⟩))
  · have n0 : ¬ nI (cH s.1 (s.1 0)) = 0 := nI_ne0 (by omega) (by omega)
    refine cN n0 (c_remember I (fun M1 q1 I1 F1 => m_rR I1.1.1 ⟨kc0 car2, ?_⟩))
    have cr := I1.2.2.2.1.1
    have wf := I1.2.2.2.1.2
    refine c_takeFromHeads cr wf (fun M2 cr2 o2 => ?_)
    have R1 := (R.fr F1).fr (o2.fc car2)
    refine H _ _ (txs _ R1) (fun K h => ⟨k449, q_onHeads R1.qq g8 p60 (cN n0 (r_rec R1 I.2.2.2.2.1.1 (fun M3 R3 F3 => q_r0 R3.qq (q_rI R3.qq 0 rfl (by decide) (m_eq ?_)))))⟩)
    refine q_clears _ (s.1 0) g8 p60 (fun d hd hn => ?_) (fun M4 Q4 => ?_) 4000 (s.1 0) 0 M3 (by omega) (by omega) R3.qq
    · have wd := wf_cl wf d (by omega)
      have e0 := clN_lo s.1 (s.1 0) 0 (by decide) d
      have e3 := clN_hd s.1 (s.1 0) (s.1 0 - 1 - d) 3 (by omega) (by decide) d (by omega) p60
      exact wd.n11 (h := s.1 0 - 1 - d) (by omega) (by omega)
    · exact h M4 (inv_fin (s := (clN s.1 (s.1 0) (s.1 0), s.2.1, clP s.1 s.2.2 (s.1 0) (s.1 0))) (I1.act o2 cr2 (wf_cl wf _ (Nat.le_refl _)) (Nat.le_refl b)) (R3.act Q4.2 Q4.1) (F3.trans Q4.2.fr))
theorem y_perform {K : Int32 → Mem → Prop} (V : INV M b) (hb : b + 40 ≤ 20480) (H : ∀ v M1, An (w_X6_perform 457 M1 449) v (b + 40) → K v M1) : w_X5_perform 457 M 1 K := by
  obtain ⟨s, Hs, k, z, f, q, tl, tx, I, R⟩ := id V
  have V' := V.mono (show b ≤ b + 40 by omega)
  have w0 := I.2.2.2.1.2
  have cr0 := I.2.2.2.1.1
  have g8 := w0.n.1
  have i1 := I.1.1
  have i4 := I.1.2.2.2.1
  have T := I.txx
  have h60 := T.2.1
  have h65 : ∀ j, j < 60 → tx j < 65536 := fun j hj => (T.2.2.2 j hj).1
  refine ⟨k1, m_rR i4 ⟨k447, c_reads T 0 (by decide) (fun W0 => cF (by decide) ?_) (fun N0 => cT rfl (m_rR i4 ⟨k447, c_reads T 1 (by decide) (fun W1 => cF (by decide) ?_) (fun N1 => cT rfl (m_rR i4 ⟨k447, c_reads T 2 (by decide) (fun W2 => cF (by decide) ?_) (fun N2 => cT rfl (m_rR i4 ⟨k447, c_reads T 3 (by decide) (fun W3 => cF (by decide) ?_) (fun N3 => cT rfl ?_)⟩))⟩))⟩))⟩⟩
  · refine ⟨k1, c_remember I (fun M1 q1 I1 F1 => c_steps I1 1 (by decide) (by omega) (fun M2 I2 F2 => H _ _ (fun K h => ?_)))⟩
    have R2 := (R.fr F1).fr F2
    refine ⟨k449, r_isWord R2.trr h65 h60 4 115 116 101 112 (by decide) (by decide) (by decide) (by decide) (by decide) (fun _ => cF (by decide) ?_) (fun n => absurd (wd0.mp W0) n)⟩
    refine r_rec R2 I.2.2.2.2.1.1 (fun M3 R3 F3 => r_goes R3 w0 1 (by decide) (by omega) (fun M4 R4 F4 => h M4 ?_))
    exact (inv_fin I2 R4 (F3.trans F4)).mono (by omega)
  · refine m_rR i1 ⟨kc0 car2, ?_⟩
    rw [cr0.2.1.2.1]
    refine ⟨k1, c_remember I (fun M1 q1 I1 F1 => c_steps I1 (s.1 0) (by omega) (by omega) (fun M2 I2 F2 => H _ _ (fun K h => ?_)))⟩
    have R2 := (R.fr F1).fr F2
    refine ⟨k449, r_isWord R2.trr h65 h60 4 115 116 101 112 (by decide) (by decide) (by decide) (by decide) (by decide) (fun y => absurd (wd0.mpr y) N0) (fun _ => cT rfl (r_isWord R2.trr h65 h60 4 116 117 114 110 (by decide) (by decide) (by decide) (by decide) (by decide) (fun _ => cF (by decide) ?_) (fun n => absurd (wd1.mp W1) n)))⟩
    refine r_rec R2 I.2.2.2.2.1.1 (fun M3 R3 F3 => q_r0 R3.qq (q_rI R3.qq 0 rfl (by decide) (r_goes R3 w0 (s.1 0) (by omega) (by omega) (fun M4 R4 F4 => h M4 ?_))))
    exact (inv_fin I2 R4 (F3.trans F4)).mono (by omega)
  · refine y_stop V (fun v M1 tr an => H _ _ (fun K h => ?_))
    have t := tr tl tx T
    exact ⟨k449, r_isWord t h65 h60 4 115 116 101 112 (by decide) (by decide) (by decide) (by decide) (by decide) (fun y => absurd (wd0.mpr y) N0) (fun _ => cT rfl (r_isWord t h65 h60 4 116 117 114 110 (by decide) (by decide) (by decide) (by decide) (by decide) (fun y => absurd (wd1.mpr y) N1) (fun _ => cT rfl (r_isWord t h65 h60 4 115 116 111 112 (by decide) (by decide) (by decide) (by decide) (by decide) (fun _ => cF (by decide) (an K (fun M2 V2 => h M2 (V2.mono (by omega))))) (fun n => absurd (wd2.mp W2) n)))))⟩
  · refine y_clear V (fun v M1 tr an => H _ _ (fun K h => ?_))
    have t := tr tl tx T
    obtain ⟨t0, t1, t2⟩ := id t
    obtain ⟨wa, wb⟩ := wd3.mp W3
    refine ⟨k449, r_isWord t h65 h60 4 115 116 101 112 (by decide) (by decide) (by decide) (by decide) (by decide) (fun y => absurd (wd0.mpr y) N0) (fun _ => cT rfl (r_isWord t h65 h60 4 116 117 114 110 (by decide) (by decide) (by decide) (by decide) (by decide) (fun y => absurd (wd1.mpr y) N1) (fun _ => cT rfl (r_isWord t h65 h60 4 115 116 111 112 (by decide) (by decide) (by decide) (by decide) (by decide) (fun y => absurd (wd2.mpr y) N2) (fun _ => cT rfl (r_isWord t h65 h60 5 99 108 101 97 (by decide) (by decide) (by decide) (by decide) (by decide) (fun _ => cF (by decide) (m_rR t0 (m_rI 456 9 60 4 k456 rfl (by decide) (by decide) ?_))) (fun n => absurd wa n)))))))⟩
    rw [t2 4 (by decide), wb]
    exact cP rfl (an K (fun M2 V2 => h M2 (V2.mono (by omega))))
  · refine H _ _ (fun K h => ?_)
    have t := R.trr
    obtain ⟨t0, t1, t2⟩ := id t
    refine ⟨k449, r_isWord t h65 h60 4 115 116 101 112 (by decide) (by decide) (by decide) (by decide) (by decide) (fun y => absurd (wd0.mpr y) N0) (fun _ => cT rfl (r_isWord t h65 h60 4 116 117 114 110 (by decide) (by decide) (by decide) (by decide) (by decide) (fun y => absurd (wd1.mpr y) N1) (fun _ => cT rfl (r_isWord t h65 h60 4 115 116 111 112 (by decide) (by decide) (by decide) (by decide) (by decide) (fun y => absurd (wd2.mpr y) N2) (fun _ => cT rfl (r_isWord t h65 h60 5 99 108 101 97 (by decide) (by decide) (by decide) (by decide) (by decide) (fun wa => cF (by decide) (m_rR t0 (m_rI 456 9 60 4 k456 rfl (by decide) (by decide) ?_))) (fun n => cT rfl (h M V'))))))))⟩
    rw [t2 4 (by decide)]
    have b4 := h65 4 (by decide)
    exact cN (fun y => N3 (wd3.mpr ⟨wa, (nI_eq (b := 114) (by omega) (by decide)).mp y⟩)) (h M V')
