/-! THE PURE PART, 16: a step keeps what a state keeps -/
variable {h p t b b' : Nat} {N N' P P' : Nat → Nat} {D D' : Nat → UInt64}
theorem shN_hi {N : Nat → Nat} {n i x : Nat} (h : 572 + i < x ∧ x ≤ 572 + n) : shN N n i x = N (x - 1) := if_pos h
theorem WH.mono (w : WH N D b h) (bb : b ≤ b') : WH N D b' h := by
  obtain ⟨a0, a1, a2, a3, a4, a5, a6, a7, a8⟩ := w
  exact ⟨a0, a1, by omega, by omega, by omega, by omega, by omega, a7, a8⟩
theorem WF.mono (w : WF N D P b) (bb : b ≤ b') : WF N D P b' := by
  obtain ⟨⟨g0, g8, g1, g2, g31, g3, g4', g5'⟩, r, wh, wo, wz, wd, wq, L, C⟩ := w
  refine ⟨⟨g0, g8, by omega, g2, g31, g3, by omega, by omega⟩, r, fun h hh => (wh h hh).mono bb, wo, wz, wd, fun p hp => ?_, L, C⟩
  obtain ⟨a0, a1, a2, a3, a4, a5, a6, a7, a8, a9⟩ := wq p hp
  exact ⟨a0, a1, a2, a3, a4, by omega, a6, a7, a8, a9⟩

theorem wf_acc (w : WF N D P b) (hb : b ≤ 20480) (hh : h < N 0) (h3 : N (12 + 10 * h + 3) = p + 1) : WF (enA N h p) (enD N D h p t) (P) (b + 1) := by
  obtain ⟨⟨g0, g8, g1, g2, g31, g3, g4, g5⟩, r, wh, wo, wz, wd, wq, L, ⟨k0, k1, k2, k3, k4⟩⟩ := id w
  obtain ⟨o1, o2, o3, o4, o5, o6⟩ := wo h hh (by omega)
  obtain ⟨a0, a1, a2, a3, a4, a5, a6, a7, a8⟩ := wh h hh
  have hp : p < N 2 := by omega
  have st : N (92 + 8 * p + 3) = 1 := by
    have := o2
    rw [h3, Nat.add_sub_cancel] at this
    exact this
  obtain ⟨q0, q1, q2, q3, q4, q5, q6, q7, q8, q9⟩ := wq p hp
  have q9 := q9 (by omega)
  have n11 := w.n11 hh (by omega)
  refine wf_upd w (by omega) hh hp ?_ ?_ ?_ ?_ ?_ ?_ ?_ ?_ ?_ ?_ ?_ ?_ ?_ ?_ ?_ ?_ ?_ ?_
  · intro j hj
    simp (disch := omega) only [enA, enR, enT, rjN, tfN, eA, eA0, up_eq, up_ne, inc_eq, inc_ne, shN_lo]
  · intro h' hh' hn k hk
    simp (disch := omega) only [enA, enR, enT, rjN, tfN, eA, eA0, up_eq, up_ne, inc_eq, inc_ne, shN_lo]
  · intro q hq qn k hk
    simp (disch := omega) only [enA, enR, enT, rjN, tfN, eA, eA0, up_eq, up_ne, inc_eq, inc_ne, shN_lo]
  · intro j hj
    simp (disch := omega) only [enD, eD0, up_ne]
  · intro h' hh' hn k hk
    simp (disch := omega) only [enD, eD0, up_ne]
  · simp (disch := omega) only [enA, enR, enT, rjN, tfN, eA, eA0, up_eq, up_ne, inc_eq, inc_ne, shN_lo]
    omega
  · simp (disch := omega) only [enA, enR, enT, rjN, tfN, eA, eA0, up_eq, up_ne, inc_eq, inc_ne, shN_lo]
    omega
  · refine ⟨?_, ?_, ?_, ?_, ?_, ?_, ?_, ?_, ?_⟩
    · simp (disch := omega) only [enA, enR, enT, rjN, tfN, eA, eA0, up_eq, up_ne, inc_eq, inc_ne, shN_lo]; exact a0
    · simp (disch := omega) only [enA, enR, enT, rjN, tfN, eA, eA0, up_eq, up_ne, inc_eq, inc_ne, shN_lo]; exact a1
    · simp (disch := omega) only [enA, enR, enT, rjN, tfN, eA, eA0, up_eq, up_ne, inc_eq, inc_ne, shN_lo]; omega
    · simp (disch := omega) only [enA, enR, enT, rjN, tfN, eA, eA0, up_eq, up_ne, inc_eq, inc_ne, shN_lo]; omega
    · simp (disch := omega) only [enA, enR, enT, rjN, tfN, eA, eA0, up_eq, up_ne, inc_eq, inc_ne, shN_lo]; omega
    · simp (disch := omega) only [enA, enR, enT, rjN, tfN, eA, eA0, up_eq, up_ne, inc_eq, inc_ne, shN_lo]; omega
    · simp (disch := omega) only [enA, enR, enT, rjN, tfN, eA, eA0, up_eq, up_ne, inc_eq, inc_ne, shN_lo]; omega
    · simp (disch := omega) only [enA, enR, enT, rjN, tfN, eA, eA0, up_eq, up_ne, inc_eq, inc_ne, shN_lo, enD]
      exact (gain_ok a7 (Nat.le_trans a3 hb) a0).2.2.2
    · simp (disch := omega) only [enD, eD0, up_ne]; exact a8
  · intro z
    refine absurd ?_ z
    simp (disch := omega) only [enA, enR, enT, rjN, tfN, eA, eA0, up_eq, up_ne, inc_eq, inc_ne, shN_lo]
  · intro h' hh' hn e
    exact hn (wd h' h hh' hh (by omega) (by omega))
  · refine Or.inl ?_
    simp (disch := omega) only [enA, enR, enT, rjN, tfN, eA, eA0, up_eq, up_ne, inc_eq, inc_ne, shN_lo]
  · refine ⟨?_, ?_, ?_, ?_, ?_, ?_, ?_, ?_, ?_, ?_⟩
    · simp (disch := omega) only [enA, enR, enT, rjN, tfN, eA, eA0, up_eq, up_ne, inc_eq, inc_ne, shN_lo]; exact q0
    · simp (disch := omega) only [enA, enR, enT, rjN, tfN, eA, eA0, up_eq, up_ne, inc_eq, inc_ne, shN_lo]; exact q1
    · simp (disch := omega) only [enA, enR, enT, rjN, tfN, eA, eA0, up_eq, up_ne, inc_eq, inc_ne, shN_lo]; exact q2
    · simp (disch := omega) only [enA, enR, enT, rjN, tfN, eA, eA0, up_eq, up_ne, inc_eq, inc_ne, shN_lo]; exact q3
    · simp (disch := omega) only [enA, enR, enT, rjN, tfN, eA, eA0, up_eq, up_ne, inc_eq, inc_ne, shN_lo]; omega
    · simp (disch := omega) only [enA, enR, enT, rjN, tfN, eA, eA0, up_eq, up_ne, inc_eq, inc_ne, shN_lo]; omega
    · simp (disch := omega) only [enA, enR, enT, rjN, tfN, eA, eA0, up_eq, up_ne, inc_eq, inc_ne, shN_lo]; omega
    · simp (disch := omega) only [enA, enR, enT, rjN, tfN, eA, eA0, up_eq, up_ne, inc_eq, inc_ne, shN_lo]; omega
    · simp (disch := omega) only [enA, enR, enT, rjN, tfN, eA, eA0, up_eq, up_ne, inc_eq, inc_ne, shN_lo]; omega
    · intro _
      simp (disch := omega) only [enA, enR, enT, rjN, tfN, eA, eA0, up_eq, up_ne, inc_eq, inc_ne, shN_lo]
      exact q9
  · refine LN_keep (p := p) L (by omega) hp ?_ ?_ ?_ ?_ (by omega) ?_
    · simp (disch := omega) only [enA, enR, enT, rjN, tfN, eA, eA0, up_eq, up_ne, inc_eq, inc_ne, shN_lo]
    · simp (disch := omega) only [enA, enR, enT, rjN, tfN, eA, eA0, up_eq, up_ne, inc_eq, inc_ne, shN_lo]
    · intro k hk
      simp (disch := omega) only [enA, enR, enT, rjN, tfN, eA, eA0, up_eq, up_ne, inc_eq, inc_ne, shN_lo]
    · intro q hq hn
      simp (disch := omega) only [enA, enR, enT, rjN, tfN, eA, eA0, up_eq, up_ne, inc_eq, inc_ne, shN_lo]
    · simp (disch := omega) only [enA, enR, enT, rjN, tfN, eA, eA0, up_eq, up_ne, inc_eq, inc_ne, shN_lo]
      decide
  · simp (disch := omega) only [enA, enR, enT, rjN, tfN, eA, eA0, up_eq, up_ne, inc_eq, inc_ne, shN_lo]
    rw [st]
    rfl
  · simp (disch := omega) only [enA, enR, enT, rjN, tfN, eA, eA0, up_eq, up_ne, inc_eq, inc_ne, shN_lo]
    rw [st, h3]
    rfl
  · intro e' e1 e5
    simp (disch := omega) only [enA, enR, enT, rjN, tfN, eA, eA0, up_eq, up_ne, inc_eq, inc_ne, shN_lo]
  · simp (disch := omega) only [enA, enR, enT, rjN, tfN, eA, eA0, up_eq, up_ne, inc_eq, inc_ne, shN_lo]
    omega
  · simp (disch := omega) only [enA, enR, enT, rjN, tfN, eA, eA0, up_eq, up_ne, inc_eq, inc_ne, shN_lo]
    try omega

theorem wf_rej (w : WF N D P b) (hb : b ≤ 20480) (hh : h < N 0) (h3 : N (12 + 10 * h + 3) = p + 1) (e : Nat) (he : e ≠ 0) (he5 : e ≤ 5) : WF (enR N h p e) (enD N D h p t) (P) (b + 1) := by
  obtain ⟨⟨g0, g8, g1, g2, g31, g3, g4, g5⟩, r, wh, wo, wz, wd, wq, L, ⟨k0, k1, k2, k3, k4⟩⟩ := id w
  obtain ⟨o1, o2, o3, o4, o5, o6⟩ := wo h hh (by omega)
  obtain ⟨a0, a1, a2, a3, a4, a5, a6, a7, a8⟩ := wh h hh
  have hp : p < N 2 := by omega
  have st : N (92 + 8 * p + 3) = 1 := by
    have := o2
    rw [h3, Nat.add_sub_cancel] at this
    exact this
  obtain ⟨q0, q1, q2, q3, q4, q5, q6, q7, q8, q9⟩ := wq p hp
  have q9 := q9 (by omega)
  have n11 := w.n11 hh (by omega)
  refine wf_upd w (by omega) hh hp ?_ ?_ ?_ ?_ ?_ ?_ ?_ ?_ ?_ ?_ ?_ ?_ ?_ ?_ ?_ ?_ ?_ ?_
  · intro j hj
    simp (disch := omega) only [enA, enR, enT, rjN, tfN, eA, eA0, up_eq, up_ne, inc_eq, inc_ne, shN_lo]
  · intro h' hh' hn k hk
    simp (disch := omega) only [enA, enR, enT, rjN, tfN, eA, eA0, up_eq, up_ne, inc_eq, inc_ne, shN_lo]
  · intro q hq qn k hk
    simp (disch := omega) only [enA, enR, enT, rjN, tfN, eA, eA0, up_eq, up_ne, inc_eq, inc_ne, shN_lo]
  · intro j hj
    simp (disch := omega) only [enD, eD0, up_ne]
  · intro h' hh' hn k hk
    simp (disch := omega) only [enD, eD0, up_ne]
  · simp (disch := omega) only [enA, enR, enT, rjN, tfN, eA, eA0, up_eq, up_ne, inc_eq, inc_ne, shN_lo]
    omega
  · simp (disch := omega) only [enA, enR, enT, rjN, tfN, eA, eA0, up_eq, up_ne, inc_eq, inc_ne, shN_lo]
    omega
  · refine ⟨?_, ?_, ?_, ?_, ?_, ?_, ?_, ?_, ?_⟩
    · simp (disch := omega) only [enA, enR, enT, rjN, tfN, eA, eA0, up_eq, up_ne, inc_eq, inc_ne, shN_lo]; exact a0
    · simp (disch := omega) only [enA, enR, enT, rjN, tfN, eA, eA0, up_eq, up_ne, inc_eq, inc_ne, shN_lo]; exact a1
    · simp (disch := omega) only [enA, enR, enT, rjN, tfN, eA, eA0, up_eq, up_ne, inc_eq, inc_ne, shN_lo]; omega
    · simp (disch := omega) only [enA, enR, enT, rjN, tfN, eA, eA0, up_eq, up_ne, inc_eq, inc_ne, shN_lo]; omega
    · simp (disch := omega) only [enA, enR, enT, rjN, tfN, eA, eA0, up_eq, up_ne, inc_eq, inc_ne, shN_lo]; omega
    · simp (disch := omega) only [enA, enR, enT, rjN, tfN, eA, eA0, up_eq, up_ne, inc_eq, inc_ne, shN_lo]; omega
    · simp (disch := omega) only [enA, enR, enT, rjN, tfN, eA, eA0, up_eq, up_ne, inc_eq, inc_ne, shN_lo]; omega
    · simp (disch := omega) only [enA, enR, enT, rjN, tfN, eA, eA0, up_eq, up_ne, inc_eq, inc_ne, shN_lo, enD]
      exact (gain_ok a7 (Nat.le_trans a3 hb) a0).2.2.2
    · simp (disch := omega) only [enD, eD0, up_ne]; exact a8
  · intro z
    refine absurd ?_ z
    simp (disch := omega) only [enA, enR, enT, rjN, tfN, eA, eA0, up_eq, up_ne, inc_eq, inc_ne, shN_lo]
  · intro h' hh' hn e
    exact hn (wd h' h hh' hh (by omega) (by omega))
  · refine Or.inl ?_
    simp (disch := omega) only [enA, enR, enT, rjN, tfN, eA, eA0, up_eq, up_ne, inc_eq, inc_ne, shN_lo]
  · refine ⟨?_, ?_, ?_, ?_, ?_, ?_, ?_, ?_, ?_, ?_⟩
    · simp (disch := omega) only [enA, enR, enT, rjN, tfN, eA, eA0, up_eq, up_ne, inc_eq, inc_ne, shN_lo]; exact q0
    · simp (disch := omega) only [enA, enR, enT, rjN, tfN, eA, eA0, up_eq, up_ne, inc_eq, inc_ne, shN_lo]; exact q1
    · simp (disch := omega) only [enA, enR, enT, rjN, tfN, eA, eA0, up_eq, up_ne, inc_eq, inc_ne, shN_lo]; exact q2
    · simp (disch := omega) only [enA, enR, enT, rjN, tfN, eA, eA0, up_eq, up_ne, inc_eq, inc_ne, shN_lo]; exact q3
    · simp (disch := omega) only [enA, enR, enT, rjN, tfN, eA, eA0, up_eq, up_ne, inc_eq, inc_ne, shN_lo]; omega
    · simp (disch := omega) only [enA, enR, enT, rjN, tfN, eA, eA0, up_eq, up_ne, inc_eq, inc_ne, shN_lo]; omega
    · simp (disch := omega) only [enA, enR, enT, rjN, tfN, eA, eA0, up_eq, up_ne, inc_eq, inc_ne, shN_lo]; omega
    · simp (disch := omega) only [enA, enR, enT, rjN, tfN, eA, eA0, up_eq, up_ne, inc_eq, inc_ne, shN_lo]; omega
    · simp (disch := omega) only [enA, enR, enT, rjN, tfN, eA, eA0, up_eq, up_ne, inc_eq, inc_ne, shN_lo]; omega
    · intro z
      refine absurd ?_ z
      simp (disch := omega) only [enA, enR, enT, rjN, tfN, eA, eA0, up_eq, up_ne, inc_eq, inc_ne, shN_lo]
  · refine LN_keep (p := p) L (by omega) hp ?_ ?_ ?_ ?_ (by omega) ?_
    · simp (disch := omega) only [enA, enR, enT, rjN, tfN, eA, eA0, up_eq, up_ne, inc_eq, inc_ne, shN_lo]
    · simp (disch := omega) only [enA, enR, enT, rjN, tfN, eA, eA0, up_eq, up_ne, inc_eq, inc_ne, shN_lo]
    · intro k hk
      simp (disch := omega) only [enA, enR, enT, rjN, tfN, eA, eA0, up_eq, up_ne, inc_eq, inc_ne, shN_lo]
    · intro q hq hn
      simp (disch := omega) only [enA, enR, enT, rjN, tfN, eA, eA0, up_eq, up_ne, inc_eq, inc_ne, shN_lo]
    · simp (disch := omega) only [enA, enR, enT, rjN, tfN, eA, eA0, up_eq, up_ne, inc_eq, inc_ne, shN_lo]
      decide
  · simp (disch := omega) only [enA, enR, enT, rjN, tfN, eA, eA0, up_eq, up_ne, inc_eq, inc_ne, shN_lo]
    rw [st]
    rfl
  · simp (disch := omega) only [enA, enR, enT, rjN, tfN, eA, eA0, up_eq, up_ne, inc_eq, inc_ne, shN_lo]
    rw [st, h3]
    rfl
  · intro e' e1 e5
    by_cases z : e' = e
    · subst z
      simp (disch := omega) only [enA, enR, enT, rjN, tfN, eA, eA0, up_eq, up_ne, inc_eq, inc_ne, shN_lo]
      rw [q9, if_neg (by omega), if_pos trivial]
    · simp (disch := omega) only [enA, enR, enT, rjN, tfN, eA, eA0, up_eq, up_ne, inc_eq, inc_ne, shN_lo]
      rw [q9, if_neg (by omega), if_neg (by omega)]
  · simp (disch := omega) only [enA, enR, enT, rjN, tfN, eA, eA0, up_eq, up_ne, inc_eq, inc_ne, shN_lo]
    omega
  · simp (disch := omega) only [enA, enR, enT, rjN, tfN, eA, eA0, up_eq, up_ne, inc_eq, inc_ne, shN_lo]
    try omega

theorem wf_ret (w : WF N D P b) (hb : b ≤ 20480) (hh : h < N 0) (h3 : N (12 + 10 * h + 3) = p + 1) (hr : N (92 + 8 * p + 5) ≠ 2) : WF (enT N h p) (enD N D h p t) (fun q => if q = p then 0 else P q + 1) (b + 1) := by
  obtain ⟨⟨g0, g8, g1, g2, g31, g3, g4, g5⟩, r, wh, wo, wz, wd, wq, L, ⟨k0, k1, k2, k3, k4⟩⟩ := id w
  obtain ⟨o1, o2, o3, o4, o5, o6⟩ := wo h hh (by omega)
  obtain ⟨a0, a1, a2, a3, a4, a5, a6, a7, a8⟩ := wh h hh
  have hp : p < N 2 := by omega
  have st : N (92 + 8 * p + 3) = 1 := by
    have := o2
    rw [h3, Nat.add_sub_cancel] at this
    exact this
  obtain ⟨q0, q1, q2, q3, q4, q5, q6, q7, q8, q9⟩ := wq p hp
  have q9 := q9 (by omega)
  have n11 := w.n11 hh (by omega)
  refine wf_upd w (by omega) hh hp ?_ ?_ ?_ ?_ ?_ ?_ ?_ ?_ ?_ ?_ ?_ ?_ ?_ ?_ ?_ ?_ ?_ ?_
  · intro j hj
    simp (disch := omega) only [enA, enR, enT, rjN, tfN, eA, eA0, up_eq, up_ne, inc_eq, inc_ne, shN_lo]
  · intro h' hh' hn k hk
    simp (disch := omega) only [enA, enR, enT, rjN, tfN, eA, eA0, up_eq, up_ne, inc_eq, inc_ne, shN_lo]
  · intro q hq qn k hk
    simp (disch := omega) only [enA, enR, enT, rjN, tfN, eA, eA0, up_eq, up_ne, inc_eq, inc_ne, shN_lo]
  · intro j hj
    simp (disch := omega) only [enD, eD0, up_ne]
  · intro h' hh' hn k hk
    simp (disch := omega) only [enD, eD0, up_ne]
  · simp (disch := omega) only [enA, enR, enT, rjN, tfN, eA, eA0, up_eq, up_ne, inc_eq, inc_ne, shN_lo]
    omega
  · simp (disch := omega) only [enA, enR, enT, rjN, tfN, eA, eA0, up_eq, up_ne, inc_eq, inc_ne, shN_lo]
    omega
  · refine ⟨?_, ?_, ?_, ?_, ?_, ?_, ?_, ?_, ?_⟩
    · simp (disch := omega) only [enA, enR, enT, rjN, tfN, eA, eA0, up_eq, up_ne, inc_eq, inc_ne, shN_lo]; exact a0
    · simp (disch := omega) only [enA, enR, enT, rjN, tfN, eA, eA0, up_eq, up_ne, inc_eq, inc_ne, shN_lo]; exact a1
    · simp (disch := omega) only [enA, enR, enT, rjN, tfN, eA, eA0, up_eq, up_ne, inc_eq, inc_ne, shN_lo]; omega
    · simp (disch := omega) only [enA, enR, enT, rjN, tfN, eA, eA0, up_eq, up_ne, inc_eq, inc_ne, shN_lo]; omega
    · simp (disch := omega) only [enA, enR, enT, rjN, tfN, eA, eA0, up_eq, up_ne, inc_eq, inc_ne, shN_lo]; omega
    · simp (disch := omega) only [enA, enR, enT, rjN, tfN, eA, eA0, up_eq, up_ne, inc_eq, inc_ne, shN_lo]; omega
    · simp (disch := omega) only [enA, enR, enT, rjN, tfN, eA, eA0, up_eq, up_ne, inc_eq, inc_ne, shN_lo]; omega
    · simp (disch := omega) only [enA, enR, enT, rjN, tfN, eA, eA0, up_eq, up_ne, inc_eq, inc_ne, shN_lo, enD]
      exact (gain_ok a7 (Nat.le_trans a3 hb) a0).2.2.2
    · simp (disch := omega) only [enD, eD0, up_ne]; exact a8
  · intro z
    refine absurd ?_ z
    simp (disch := omega) only [enA, enR, enT, rjN, tfN, eA, eA0, up_eq, up_ne, inc_eq, inc_ne, shN_lo]
  · intro h' hh' hn e
    exact hn (wd h' h hh' hh (by omega) (by omega))
  · refine Or.inl ?_
    simp (disch := omega) only [enA, enR, enT, rjN, tfN, eA, eA0, up_eq, up_ne, inc_eq, inc_ne, shN_lo]
  · refine ⟨?_, ?_, ?_, ?_, ?_, ?_, ?_, ?_, ?_, ?_⟩
    · simp (disch := omega) only [enA, enR, enT, rjN, tfN, eA, eA0, up_eq, up_ne, inc_eq, inc_ne, shN_lo]; exact q0
    · simp (disch := omega) only [enA, enR, enT, rjN, tfN, eA, eA0, up_eq, up_ne, inc_eq, inc_ne, shN_lo]; exact q1
    · simp (disch := omega) only [enA, enR, enT, rjN, tfN, eA, eA0, up_eq, up_ne, inc_eq, inc_ne, shN_lo]; exact q2
    · simp (disch := omega) only [enA, enR, enT, rjN, tfN, eA, eA0, up_eq, up_ne, inc_eq, inc_ne, shN_lo]; exact q3
    · simp (disch := omega) only [enA, enR, enT, rjN, tfN, eA, eA0, up_eq, up_ne, inc_eq, inc_ne, shN_lo]; omega
    · simp (disch := omega) only [enA, enR, enT, rjN, tfN, eA, eA0, up_eq, up_ne, inc_eq, inc_ne, shN_lo]; omega
    · simp (disch := omega) only [enA, enR, enT, rjN, tfN, eA, eA0, up_eq, up_ne, inc_eq, inc_ne, shN_lo]; omega
    · simp (disch := omega) only [enA, enR, enT, rjN, tfN, eA, eA0, up_eq, up_ne, inc_eq, inc_ne, shN_lo]; omega
    · simp (disch := omega) only [enA, enR, enT, rjN, tfN, eA, eA0, up_eq, up_ne, inc_eq, inc_ne, shN_lo]; omega
    · intro _
      simp (disch := omega) only [enA, enR, enT, rjN, tfN, eA, eA0, up_eq, up_ne, inc_eq, inc_ne, shN_lo]
      exact q9
  · refine LN_front (p := p) L n11 hp ?_ ?_ ?_ ?_ ?_ (by omega) ?_
    · simp (disch := omega) only [enA, enR, enT, rjN, tfN, eA, eA0, up_eq, up_ne, inc_eq, inc_ne, shN_lo]
    · simp (disch := omega) only [enA, enR, enT, rjN, tfN, eA, eA0, up_eq, up_ne, inc_eq, inc_ne, shN_lo]
    · simp (disch := omega) only [enA, enR, enT, rjN, tfN, eA, eA0, up_eq, up_ne, inc_eq, inc_ne, shN_lo]
    · intro k hk
      simp (disch := omega) only [enA, enR, enT, rjN, tfN, eA, eA0, up_eq, up_ne, inc_eq, inc_ne]
      have eX : ∀ X : Nat → Nat, shN X (N 11) 0 (572 + (k + 1)) = X (572 + k) := fun X => by
        rw [shN_hi (by omega)]; exact congrArg X (by omega)
      rw [eX]
      simp (disch := omega) only [up_ne, inc_ne]
    · intro q hq hn
      simp (disch := omega) only [enA, enR, enT, rjN, tfN, eA, eA0, up_eq, up_ne, inc_eq, inc_ne, shN_lo]
    · simp (disch := omega) only [enA, enR, enT, rjN, tfN, eA, eA0, up_eq, up_ne, inc_eq, inc_ne, shN_lo]
  · simp (disch := omega) only [enA, enR, enT, rjN, tfN, eA, eA0, up_eq, up_ne, inc_eq, inc_ne, shN_lo]
    rw [st]
    rfl
  · simp (disch := omega) only [enA, enR, enT, rjN, tfN, eA, eA0, up_eq, up_ne, inc_eq, inc_ne, shN_lo]
    rw [st, h3]
    rfl
  · intro e' e1 e5
    simp (disch := omega) only [enA, enR, enT, rjN, tfN, eA, eA0, up_eq, up_ne, inc_eq, inc_ne, shN_lo]
  · simp (disch := omega) only [enA, enR, enT, rjN, tfN, eA, eA0, up_eq, up_ne, inc_eq, inc_ne, shN_lo]
    omega
  · simp (disch := omega) only [enA, enR, enT, rjN, tfN, eA, eA0, up_eq, up_ne, inc_eq, inc_ne, shN_lo]
    omega

theorem wf_ends (w : WF N D P b) (hb : b ≤ 20480) (hh : h < N 0) (h3 : N (12 + 10 * h + 3) = p + 1) : WF (enN N D h p t) (enD N D h p t) (enP N D h p t P) (b + 1) := by
  unfold enN enP
  by_cases e0 : eJ N D h p t = 0
  · rw [if_pos e0, if_pos e0]; exact wf_acc w hb hh h3
  · rw [if_neg e0, if_neg e0]
    have hs := jd_le (eA0 N h p) (eD0 N D h p t) h t (vl N D h p t)
    change eJ N D h p t = 0 ∨ eJ N D h p t = 1 ∨ eJ N D h p t = 2 ∨ eJ N D h p t = 13 ∨ eJ N D h p t = 14 at hs
    by_cases e1 : eJ N D h p t < 10 ∨ N (92 + 8 * p + 5) = 2
    · rw [if_pos e1, if_pos e1]; exact wf_rej w hb hh h3 _ (by omega) (by omega)
    · rw [if_neg e1, if_neg e1]; exact wf_ret w hb hh h3 (by omega)
theorem en_h3 (w : WF N D P b) (hh : h < N 0) (h3 : N (12 + 10 * h + 3) = p + 1) : enN N D h p t (12 + 10 * h + 3) = 0 ∧ ∀ j, j ≤ 3 → enN N D h p t j = N j := by
  obtain ⟨⟨g0, g8, g1, g2, g31, g3, g4, g5⟩, r, wh, wo, wz, wd, wq, L, -⟩ := id w
  obtain ⟨o1, o2, o3, o4, o5, o6⟩ := wo h hh (by omega)
  have hs := jd_le (eA0 N h p) (eD0 N D h p t) h t (vl N D h p t)
  change eJ N D h p t = 0 ∨ eJ N D h p t = 1 ∨ eJ N D h p t = 2 ∨ eJ N D h p t = 13 ∨ eJ N D h p t = 14 at hs
  unfold enN
  refine ⟨?_, fun j hj => ?_⟩
  · split
    · simp (disch := omega) only [enA, enR, enT, rjN, tfN, eA, eA0, up_eq, up_ne, inc_eq, inc_ne, shN_lo]
    · split
      · have : eJ N D h p t % 10 ≤ 5 := by omega
        simp (disch := omega) only [enA, enR, enT, rjN, tfN, eA, eA0, up_eq, up_ne, inc_eq, inc_ne, shN_lo]
      · simp (disch := omega) only [enA, enR, enT, rjN, tfN, eA, eA0, up_eq, up_ne, inc_eq, inc_ne, shN_lo]
  · split
    · simp (disch := omega) only [enA, enR, enT, rjN, tfN, eA, eA0, up_eq, up_ne, inc_eq, inc_ne, shN_lo]
    · split
      · have : eJ N D h p t % 10 ≤ 5 := by omega
        simp (disch := omega) only [enA, enR, enT, rjN, tfN, eA, eA0, up_eq, up_ne, inc_eq, inc_ne, shN_lo]
      · simp (disch := omega) only [enA, enR, enT, rjN, tfN, eA, eA0, up_eq, up_ne, inc_eq, inc_ne, shN_lo]

