/-! THE PURE PART, 31: clear, perform -/
variable {zz : Nat}
variable {M M' A : Mem} {b b' c h p k k' tl tl' : Nat} {s s' z z' : S3} {Hs : Nat → S3} {f f' : Bool} {q tx tx' : Nat → Nat} {N N' P : Nat → Nat} {D D' : Nat → UInt64}
def takN (N : Nat → Nat) (h p : Nat) : Nat → Nat := up (tfN N p) (12 + 10 * h + 3) 0
def frP (P : Nat → Nat) (p : Nat) : Nat → Nat := fun q => if q = p then 0 else P q + 1
theorem cr_take (cr : CR M c N D P) (w : WF N D P b) (hh : h < N 0) (h3 : N (12 + 10 * h + 3) = p + 1) : CR (pfM (sI M (c + 5 + h) 6 (-5)) c (c + 14 + p)) c (takN N h p) D (frP P p) ∧ OnC c M (pfM (sI M (c + 5 + h) 6 (-5)) c (c + 14 + p)) := by
  have h0 := w.1.2.1
  have h2 := w.1.2.2.2.1
  obtain ⟨o1, o2, -⟩ := w.2.2.2.1 h hh (by omega)
  have st : N (92 + 8 * p + 3) = 1 := by
    rw [h3, Nat.add_sub_cancel] at o2
    exact o2
  have hp : p < N 2 := by omega
  have h11 := w.n11 hh (by omega)
  have hst : ∀ q, q < N 2 → N (92 + 8 * q + 3) ≤ 3 := fun q hq => (w.2.2.2.2.2.2.1 q hq).2.2.2.2.1
  obtain ⟨S, ⟨s1, s2, s3, s4, s5⟩, cq, ch, cd, pc, pa⟩ := id cr
  obtain ⟨x3, x4, x5, x6, x10, x11, x12, x13⟩ := ch h (by omega)
  obtain ⟨y1, y2, y3⟩ := cd h hh
  obtain ⟨z1, z2, z3, z4, z5, z6, z7, z8, z10, z9⟩ := pc p hp
  have x0 := (S.2.2.1 h (by omega)).2
  have w0 := (S.2.2.2.1 p (by omega)).2
  refine ⟨cr_upd cr h p h0 h2 w.t10 ?_ ?_ rfl ?_ ?_ ?_ ?_ ?_ ?_ ?_ (fun _ _ => rfl) (fun _ _ _ _ _ => rfl) (fun _ _ _ => rfl) ?_ ?_ ?_ ?_ hp, ?_⟩
  · intro r k q1 q2 q3
    simp (disch := omega) only [pfM, gI_ne, gI_bkN]
  · intro r k q1 q2 q3
    simp (disch := omega) only [pfM, gD_sI, gD_bkN]
  · intro q hq qn k hk
    simp (disch := omega) only [pfM, gI_ne, gI_bkY, pfI_ne]
  · intro q hq qn k
    simp (disch := omega) only [pfM, gD_sI, gD_bkY, idD]
  · simp (disch := omega) only [pfM, gI_ne, gI_bkN]
  · simp (disch := omega) only [pfM, gI_ne, gI_bkY, pfI_ne]
  · intro j hj
    simp (disch := omega) only [takN, tfN, up_eq, up_ne, inc_ne, shN_lo]
  · intro h' hh' hn k hk
    simp (disch := omega) only [takN, tfN, up_eq, up_ne, inc_ne, shN_lo]
  · intro q hq qn k hk
    simp (disch := omega) only [takN, tfN, up_eq, up_ne, inc_ne, shN_lo]
  · intro q hq qn
    have q1 := pc q hq
    simp (disch := omega) only [pfM, gI_ne, gI_bkY]
    refine (pf_place (s := N (92 + 8 * q + 3)) (y := P q) ?_ ?_ (Nat.lt_of_le_of_lt (hst q hq) (by decide))).trans ?_
    · simp (disch := omega) only [gI_ne]; exact q1.2.2.2.1
    · simp (disch := omega) only [gI_ne]; exact q1.2.2.2.2.1
    · unfold frP; rw [if_neg qn]
  · refine ⟨?_, ?_, ?_, ?_, ?_, ?_, ?_, ?_⟩ <;> simp (disch := omega) only [pfM, gI_eq, gI_ne, gI_bkN, takN, tfN, up_eq, up_ne, inc_ne, shN_lo, x3, x4, x5, x10, x11, x12, x13]
    rfl
  · intro _
    refine ⟨?_, ?_, fun q => absurd q ?_⟩
    · simp (disch := omega) only [pfM, gD_sI, gD_bkN]; exact y1
    · simp (disch := omega) only [pfM, gD_sI, gD_bkN]; exact y2
    · simp (disch := omega) only [takN, up_eq]
      exact fun z => z rfl
  · refine ⟨?_, ?_, ?_, ?_, ?_, ?_, ?_, ?_, ?_, ?_⟩
    · simp (disch := omega) only [pfM, gI_eq, gI_ne, gI_bkY, pfI_ne, takN, tfN, up_eq, up_ne, inc_ne, shN_lo, z1]
    · simp (disch := omega) only [pfM, gI_eq, gI_ne, gI_bkY, pfI_ne, takN, tfN, up_eq, up_ne, inc_ne, shN_lo, z2]
    · simp (disch := omega) only [pfM, gI_eq, gI_ne, gI_bkY, pfI_ne, takN, tfN, up_eq, up_ne, inc_ne, shN_lo, z3]
    · simp (disch := omega) only [pfM, gI_eq, gI_ne, gI_bkY, pfI_ne, takN, tfN, up_eq, up_ne, inc_ne, shN_lo]
      rfl
    · simp (disch := omega) only [pfM, gI_eq, gI_ne, gI_bkY, pfI_ne, takN, tfN, up_eq, up_ne, inc_ne, shN_lo, frP]
      rfl
    · simp (disch := omega) only [pfM, gI_eq, gI_ne, gI_bkY, pfI_ne, takN, tfN, up_eq, up_ne, inc_ne, shN_lo, z6]
    · simp (disch := omega) only [pfM, gI_eq, gI_ne, gI_bkY, pfI_ne, takN, tfN, up_eq, up_ne, inc_ne, shN_lo, z7]
    · simp (disch := omega) only [pfM, gI_eq, gI_ne, gI_bkY, pfI_ne, takN, tfN, up_eq, up_ne, inc_ne, shN_lo, z8]
    · simp (disch := omega) only [pfM, gI_eq, gI_ne, gI_bkY, pfI_ne, takN, tfN, up_eq, up_ne, inc_ne, shN_lo, z10]
    · simp (disch := omega) only [pfM, gD_sI, gD_bkY, idD, takN, tfN, up_eq, up_ne, inc_ne, shN_lo]
      exact z9
  · refine ⟨fun r k q => ?_, fun r k q => ?_, fun _ _ _ => rfl, rfl⟩ <;> simp (disch := omega) only [pfM, gI_ne, gI_bkN, gD_sI, gD_bkN]
theorem wf_take (w : WF N D P b) (hh : h < N 0) (h3 : N (12 + 10 * h + 3) = p + 1) : WF (takN N h p) D (frP P p) b := by
  obtain ⟨⟨g0, g8, g1, g2, g31, g3, g4, g5⟩, r, wh, wo, wz, wd, wq, L, ⟨k0, k1, k2, k3, k4⟩⟩ := id w
  obtain ⟨o1, o2, o3, o4, o5, o6⟩ := wo h hh (by omega)
  obtain ⟨a0, a1, a2, a3, a4, a5, a6, a7, a8⟩ := wh h hh
  have hp : p < N 2 := by omega
  have st : N (92 + 8 * p + 3) = 1 := by
    have := o2
    rw [h3, Nat.add_sub_cancel] at this
    exact this
  obtain ⟨q0, q1, q2, q3, q4, q5, q6, q7, q8, q9⟩ := wq p hp
  have q9 := q9 (by omega)
  have n11 := w.n11 hh (by omega)
  refine wf_upd w (Nat.le_refl b) hh hp ?_ ?_ ?_ (fun _ _ => rfl) (fun _ _ _ _ _ => rfl) ?_ ?_ ?_ ?_ ?_ ?_ ?_ ?_ ?_ ?_ ?_ ?_ ?_
  · intro j hj
    simp (disch := omega) only [takN, tfN, up_eq, up_ne, inc_ne, shN_lo]
  · intro h' hh' hn k hk
    simp (disch := omega) only [takN, tfN, up_eq, up_ne, inc_ne, shN_lo]
  · intro q hq qn k hk
    simp (disch := omega) only [takN, tfN, up_eq, up_ne, inc_ne, shN_lo]
  · simp (disch := omega) only [takN, tfN, up_eq, up_ne, inc_ne, shN_lo]
    omega
  · simp (disch := omega) only [takN, tfN, up_eq, up_ne, inc_ne, shN_lo]
    omega
  · refine ⟨?_, ?_, ?_, ?_, ?_, ?_, ?_, ?_, a8⟩
    · simp (disch := omega) only [takN, tfN, up_eq, up_ne, inc_ne, shN_lo]; exact a0
    · simp (disch := omega) only [takN, tfN, up_eq, up_ne, inc_ne, shN_lo]; exact a1
    · simp (disch := omega) only [takN, tfN, up_eq, up_ne, inc_ne, shN_lo]; omega
    · simp (disch := omega) only [takN, tfN, up_eq, up_ne, inc_ne, shN_lo]; omega
    · simp (disch := omega) only [takN, tfN, up_eq, up_ne, inc_ne, shN_lo]; omega
    · simp (disch := omega) only [takN, tfN, up_eq, up_ne, inc_ne, shN_lo]; omega
    · simp (disch := omega) only [takN, tfN, up_eq, up_ne, inc_ne, shN_lo]; omega
    · simp (disch := omega) only [takN, tfN, up_eq, up_ne, inc_ne, shN_lo]; exact a7
  · intro z
    refine absurd ?_ z
    simp (disch := omega) only [takN, up_eq]
  · intro h' hh' hn e
    exact hn (wd h' h hh' hh (by omega) (by omega))
  · refine Or.inl ?_
    simp (disch := omega) only [takN, up_eq]
  · refine ⟨?_, ?_, ?_, ?_, ?_, ?_, ?_, ?_, ?_, ?_⟩
    · simp (disch := omega) only [takN, tfN, up_eq, up_ne, inc_ne, shN_lo]; exact q0
    · simp (disch := omega) only [takN, tfN, up_eq, up_ne, inc_ne, shN_lo]; exact q1
    · simp (disch := omega) only [takN, tfN, up_eq, up_ne, inc_ne, shN_lo]; exact q2
    · simp (disch := omega) only [takN, tfN, up_eq, up_ne, inc_ne, shN_lo]; exact q3
    · simp (disch := omega) only [takN, tfN, up_eq, up_ne, inc_ne, shN_lo]; omega
    · simp (disch := omega) only [takN, tfN, up_eq, up_ne, inc_ne, shN_lo]; omega
    · simp (disch := omega) only [takN, tfN, up_eq, up_ne, inc_ne, shN_lo]; omega
    · simp (disch := omega) only [takN, tfN, up_eq, up_ne, inc_ne, shN_lo]; omega
    · simp (disch := omega) only [takN, tfN, up_eq, up_ne, inc_ne, shN_lo]; omega
    · intro _
      simp (disch := omega) only [takN, tfN, up_eq, up_ne, inc_ne, shN_lo]
      exact q9
  · refine LN_front (p := p) L n11 hp ?_ ?_ ?_ ?_ ?_ (by omega) ?_
    · simp (disch := omega) only [takN, tfN, up_eq, up_ne, inc_ne, shN_lo]
    · simp (disch := omega) only [takN, tfN, up_eq, up_ne, inc_eq, inc_ne, shN_lo]
    · simp (disch := omega) only [takN, tfN, up_eq, up_ne, inc_ne, shN_lo]
    · intro k hk
      simp (disch := omega) only [takN, tfN, up_eq, up_ne, inc_eq, inc_ne]
      rw [shN_hi (by omega)]
      exact congrArg N (by omega)
    · intro q hq hn
      simp (disch := omega) only [takN, tfN, up_eq, up_ne, inc_ne, shN_lo]
    · simp (disch := omega) only [takN, tfN, up_eq, up_ne, inc_ne, shN_lo]
  · simp (disch := omega) only [takN, tfN, up_eq, up_ne, inc_eq, inc_ne, shN_lo]
    rw [st]
    rfl
  · simp (disch := omega) only [takN, tfN, up_eq, up_ne, inc_eq, inc_ne, shN_lo]
    rw [st, h3]
    rfl
  · intro e' e1 e5
    simp (disch := omega) only [takN, tfN, up_eq, up_ne, inc_eq, inc_ne, shN_lo]
  · simp (disch := omega) only [takN, tfN, up_eq, up_ne, inc_eq, inc_ne, shN_lo]
  · simp (disch := omega) only [takN, tfN, up_eq, up_ne, inc_eq, inc_ne, shN_lo]
def clP (N P : Nat → Nat) (e : Nat) : Nat → Nat → Nat
  | 0 => P
  | d + 1 => if N (12 + 10 * (e - 1 - d) + 3) = 0 then clP N P e d else frP (clP N P e d) (N (12 + 10 * (e - 1 - d) + 3) - 1)
theorem clN_lo (N : Nat → Nat) (e j : Nat) (hj : j ≤ 3) : ∀ d, clN N e d j = N j := by
  intro d
  induction d with
  | zero => rfl
  | succ d ih =>
    unfold clN
    split
    · exact ih
    · rw [up_ne (by omega)]
      unfold tfN
      rw [up_ne (by omega), inc_ne (by omega), up_ne (by omega), shN_lo (by omega)]
      exact ih
theorem wf_cl (w : WF N D P b) : ∀ d, d ≤ N 0 → WF (clN N (N 0) d) D (clP N P (N 0) d) b := by
  have p60 : ∀ h, h < N 0 → N (12 + 10 * h + 3) ≤ 60 := fun h hh => by
    have := w.1.2.2.2.1
    by_cases z : N (12 + 10 * h + 3) = 0
    · omega
    · have := (w.2.2.2.1 h hh z).1; omega
  have h8 := w.1.2.1
  intro d
  induction d with
  | zero => intro _; exact w
  | succ d ih =>
    intro hd
    have w1 := ih (by omega)
    have e0 := clN_lo N (N 0) 0 (by decide) d
    have e3 := clN_hd N (N 0) (N 0 - 1 - d) 3 (by omega) (by decide) d (by omega) p60
    unfold clN clP
    by_cases z : N (12 + 10 * (N 0 - 1 - d) + 3) = 0
    · rw [if_pos z, if_pos z]; exact w1
    · rw [if_neg z, if_neg z]
      exact wf_take w1 (by omega) (by omega)
theorem sI_id {M : Mem} {r k : Nat} {v : Int32} (h : gI M r k = v) : sI M r k v = M := by
  refine Prod.ext ?_ rfl
  funext a j
  show gI (sI M r k v) a j = gI M a j
  by_cases e : a = r ∧ j = k
  · rw [e.1, e.2, gI_eq, h]
  · rw [gI_sI, if_neg e]
theorem c_takeFromHeads {K : Mem → Prop} (cr : CR M c N D P) (w : WF N D P b) (H : ∀ M', CR M' c (clN N (N 0) (N 0)) D (clP N P (N 0) (N 0)) → OnC c M M' → K M') : w_X0_takeFromHeads (448 + zz) M c K := by
  have C := cr.1.1
  have cpos := C.pos
  have h8 := w.1.2.1
  have p60 : ∀ h, h < N 0 → N (12 + 10 * h + 3) ≤ 60 := fun h hh => by
    have := w.1.2.2.2.1
    by_cases z : N (12 + 10 * h + 3) = 0
    · omega
    · have := (w.2.2.2.1 h hh z).1; omega
  refine ⟨kc0 (zz := zz) C, m_rR cr.1.2.1.2.2.2.1 (a_len (kcH (zz := zz) C) (by decide) (m_eq ?_))⟩
  rw [a_ln (kcH (zz := zz) C)]
  have L : ∀ (f i : Nat) (M' : Mem), i ≤ 8 → i < f → CR M' c (clN N (N 0) (N 0 - i)) D (clP N P (N 0) (N 0 - i)) → OnC c M M' → w_X0_takeFromHeads_L8 (448 + zz) K f M' c (nI i - 1) := by
    intro f
    induction f with
    | zero => intro i M' _ h; omega
    | succ f ih =>
      intro i M' hi hf cr' o
      cases i with
      | zero => exact cT (by decide) (H M' cr' o)
      | succ i =>
        rw [nI_pred i]
        have wf' := wf_cl w (N 0 - (i + 1)) (by omega)
        have e0 := clN_lo N (N 0) 0 (by decide) (N 0 - (i + 1))
        have e2 := clN_lo N (N 0) 2 (by decide) (N 0 - (i + 1))
        have S := cr'.1
        have r3 : gR M' c 3 = c + 4 := S.2.1.2.2.2.1
        have rr := (S.2.2.1 i (by omega)).1
        have x6 := (cr'.2.2.2.1 i (by omega)).2.2.2.1
        have nx : ∀ M2 : Mem, CR M2 c (clN N (N 0) (N 0 - i)) D (clP N P (N 0) (N 0 - i)) → OnC c M M2 → ∀ x, x = nI i + (-1 : Int32) → w_X0_takeFromHeads_L8 (448 + zz) K f M2 c x := by
          intro M2 c2 o2 x hx
          rw [hx, show nI i + (-1 : Int32) = nI i - 1 from (Int32.sub_eq_add_neg (nI i) 1).symm]
          exact ih i M2 (by omega) (by omega) c2 o2
        refine cF (nI_pos (by omega)) ⟨kc0 (zz := zz) C, m_rR r3 (a_idx (c + 4) 10 8 i _ (kcH (zz := zz) C) (by decide) rfl (by omega) (by decide) rr ⟨kch (zz := zz) C i (by omega), ?_⟩)⟩
        rw [x6]
        have emp : clN N (N 0) (N 0 - (i + 1)) (12 + 10 * i + 3) = 0 → CR M' c (clN N (N 0) (N 0 - i)) D (clP N P (N 0) (N 0 - i)) → w_X0_partAt (448 + zz) M' c (hp (clN N (N 0) (N 0 - (i + 1)) (12 + 10 * i + 3))) (fun r9 M8 => (∀ r10, r10 = gR M8 c 3 → ((r10 ≤ (448 + zz) ∧ (10 ≤ (kd r10).1 ∧ (kd r10).1 < 13) ∧ vp_in (nI i) (kd r10).2) ∧ (∀ r11, r11 = gR M8 r10 (Int32.toNatClampNeg (nI i)) → ((r11 ≤ (448 + zz) ∧ kd r11 = (1, 0)) ∧ (∀ M13, M13 = sI M8 r11 6 (-5 : Int32) → ((r9 = 0 → (∀ x14, x14 = nI i + (-1 : Int32) → w_X0_takeFromHeads_L8 (448 + zz) K f M13 c x14)) ∧ (¬ r9 = 0 → w_X0_putInFront (448 + zz) M13 c r9 (fun M15 => (∀ x16, x16 = nI i + (-1 : Int32) → w_X0_takeFromHeads_L8 (448 + zz) K f M15 c x16)))))))))) := by
          intro z c2
          rw [z]
          refine c_partN S cr'.2.1.2.2.1 (Or.inl (by decide)) (m_rR r3 (a_idx (c + 4) 10 8 i _ (kcH (zz := zz) C) (by decide) rfl (by omega) (by decide) rr ⟨kch (zz := zz) C i (by omega), m_eq (cT rfl ?_)⟩))
          rw [sI_id (by rw [x6, z]; rfl)]
          exact nx M' c2 o
        by_cases hn : i < N 0
        · have ed : N 0 - i = (N 0 - (i + 1)) + 1 := by omega
          have ei : N 0 - 1 - (N 0 - (i + 1)) = i := by omega
          have e3 := clN_hd N (N 0) i 3 (by omega) (by decide) (N 0 - (i + 1)) (by omega) p60
          by_cases z : N (12 + 10 * i + 3) = 0
          · refine emp (e3.trans z) ?_
            rw [ed]
            unfold clN clP
            rw [ei, if_pos z, if_pos z]; exact cr'
          · obtain ⟨p, hp⟩ : ∃ p, N (12 + 10 * i + 3) = p + 1 := ⟨N (12 + 10 * i + 3) - 1, by omega⟩
            have pw := (wf'.2.2.2.1 i (by omega) (by omega)).1
            have p2 : p < clN N (N 0) (N 0 - (i + 1)) 2 := by omega
            have g60 := wf'.1.2.2.2.1
            rw [e3, hp, hp_s]
            refine c_partY S cr'.2.1.2.2.1 g60 p p2 (m_rR r3 (a_idx (c + 4) 10 8 i _ (kcH (zz := zz) C) (by decide) rfl (by omega) (by decide) rr ⟨kch (zz := zz) C i (by omega), m_eq (cF (by omega) ?_)⟩))
            have S2 : Sh (sI M' (c + 5 + i) 6 (-5)) c := S.to (fun h hh => gI_ne (Or.inr (by decide))) (fun p hp => gI_ne (Or.inr (by decide))) (fun _ _ _ _ => rfl) rfl
            refine c_putInFront S2 p (by omega) ?_
            obtain ⟨u1, u2⟩ := cr_take cr' wf' (h := i) (p := p) (by omega) (by omega)
            refine nx _ ?_ (o.trans u2)
            rw [ed]
            unfold clN clP
            rw [ei, if_neg z, if_neg z, hp, Nat.add_sub_cancel]
            exact u1
        · have z := wf'.2.2.2.2.1 i (by omega) (by omega) 3 (by decide)
          refine emp z ?_
          rw [show N 0 - i = N 0 - (i + 1) by omega]; exact cr'
  exact L 4000 8 M (by decide) (by decide) (by rw [show N 0 - 8 = 0 by omega]; exact cr) (OnC.rf c M)

