/-! p27, 3: the other acts keep it -/
variable {h p t a b b' : Nat} {N N' P P' : Nat → Nat} {D D' : Nat → UInt64} {s : S3}
/-- settings, and what a head has beside its tests and its part -/
theorem we_h (e : WE N D a) (h8 : N 0 ≤ 8) (h60 : N 2 ≤ 60) (z0 : ∀ j, (j = 0 ∨ j = 1 ∨ j = 2 ∨ j = 4 ∨ j = 10) → N' j = N j) (zp : ∀ q k, q < 60 → k < 8 → N' (92 + 8 * q + k) = N (92 + 8 * q + k)) (zh : ∀ h k, h < 8 → 3 ≤ k → k < 10 → N' (12 + 10 * h + k) = N (12 + 10 * h + k)) (z2 : ∀ h, h < N 0 → N' (12 + 10 * h + 2) ≤ N (12 + 10 * h + 2)) (dx : ∀ q, q < 60 → D' (99 + q) = D (99 + q)) (dy : ∀ h, h < N 0 → (D' (4 + 12 * h)).toNat < 2 ^ 63) : WE N' D' a := by
  obtain ⟨x, y, tt, t1, t2, t3⟩ := e
  have e0 := z0 0 (by decide)
  have e1 := z0 1 (by decide)
  have e2 := z0 2 (by decide)
  have dS : ∀ h, dst N' h = dst N h := fun h => by unfold dst stA; rw [e0, e1]
  refine ⟨fun q hq => ?_, fun h hh => ?_, fun h hh ha => ?_, ?_, ?_, ?_⟩
  · rw [e2] at hq
    unfold WX
    rw [zp q 1 (by omega) (by decide), zp q 3 (by omega) (by decide), zp q 4 (by omega) (by decide), zp q 5 (by omega) (by decide), zp q 6 (by omega) (by decide), zp q 7 (by omega) (by decide), dx q (by omega)]
    exact x q hq
  · rw [e0] at hh
    obtain ⟨y1, y2, y3⟩ := y h hh
    unfold WY
    rw [zh h 4 (by omega) (by decide) (by decide), zh h 5 (by omega) (by decide) (by decide), zh h 6 (by omega) (by decide) (by decide), zh h 7 (by omega) (by decide) (by decide)]
    exact ⟨Nat.le_trans (z2 h hh) y1, y2, dy h hh⟩
  · rw [e0] at hh
    unfold WT
    rw [zh h 3 (by omega) (by decide) (by decide), zh h 8 (by omega) (by decide) (by decide), dS]
    exact tt h hh ha
  · rw [e2, z0 4 (by decide), ← t1]
    exact sm_same _ _ _ (fun q hq => zp q 4 (by omega) (by decide))
  · rw [e2, cnt_same (fun q => N' (92 + 8 * q + 3)) (fun q => N (92 + 8 * q + 3)) 2 (N 2) (fun q hq => zp q 3 (by omega) (by decide)), ← t2]
    exact sm_same _ _ _ (fun q hq => zh q 5 hq (by decide) (by decide))
  · rw [e2, cnt_same (fun q => N' (92 + 8 * q + 3)) (fun q => N (92 + 8 * q + 3)) 3 (N 2) (fun q hq => zp q 3 (by omega) (by decide)), ← t3, z0 10 (by decide)]
    congr 1
    exact sm_same _ _ _ (fun q hq => zh q 6 hq (by decide) (by decide))
theorem we_3 (e : WE N D a) (h8 : N 0 ≤ 8) (h60 : N 2 ≤ 60) (j : Nat) : WE (up N 3 j) D a :=
  we_h e h8 h60 (fun j hj => up_ne (by omega)) (fun q k _ _ => up_ne (by omega)) (fun h k _ _ _ => up_ne (by omega)) (fun h _ => by rw [up_ne (by omega)]; exact Nat.le_refl _) (fun _ _ => rfl) (fun h hh => (e.2.1 h hh).2.2)
theorem we_equip (e : WE N D a) (h8 : N 0 ≤ 8) (h60 : N 2 ≤ 60) (hh : h < N 0) (x y : Nat) : WE (up (up N (12 + 10 * h + 0) x) (12 + 10 * h + 1) y) D a :=
  we_h e h8 h60 (fun j hj => by rw [up_ne (by omega), up_ne (by omega)]) (fun q k _ _ => by rw [up_ne (by omega), up_ne (by omega)]) (fun h k _ _ _ => by rw [up_ne (by omega), up_ne (by omega)]) (fun h _ => by rw [up_ne (by omega), up_ne (by omega)]; exact Nat.le_refl _) (fun _ _ => rfl) (fun h hh => (e.2.1 h hh).2.2)
theorem we_cal (e : WE N D a) (h8 : N 0 ≤ 8) (h60 : N 2 ≤ 60) (hh : h < N 0) (v : UInt64) (hv : v.toNat < 2 ^ 63) : WE (up N (12 + 10 * h + 2) 0) (up D (4 + 12 * h) v) a := by
  refine we_h e h8 h60 (fun j hj => up_ne (by omega)) (fun q k _ _ => up_ne (by omega)) (fun h k _ _ _ => up_ne (by omega)) (fun h' hh' => ?_) (fun q hq => up_ne (by omega)) (fun h' hh' => ?_)
  · by_cases q : h' = h
    · rw [q, up_eq]; exact Nat.zero_le _
    · rw [up_ne (by omega)]; exact Nat.le_refl _
  · by_cases q : h' = h
    · rw [q, up_eq]; exact hv
    · rw [up_ne (by omega)]; exact (e.2.1 h' hh').2.2
theorem we_press (e : WE N D a) (h8 : N 0 ≤ 8) (h60 : N 2 ≤ 60) (i : Nat) (hi : i < 3) (v : UInt64) : WE N (up D i v) a :=
  we_h e h8 h60 (fun _ _ => rfl) (fun _ _ _ _ => rfl) (fun _ _ _ _ _ => rfl) (fun _ _ => Nat.le_refl _) (fun q hq => up_ne (by omega)) (fun h hh => by rw [up_ne (by omega)]; exact (e.2.1 h hh).2.2)
theorem we_begin (k : Nat) (h8 : k ≤ 8) : WE (bgN N k) (bgD D k) a := by
  have z : ∀ x, x ≠ 0 → x ≠ 3 → bgN N k x = 0 := fun x h0 h3 => bgN_z h0 h3
  have z2 := z 2 (by decide) (by decide)
  have zz0 : bgN N k 0 = k := rfl
  refine ⟨fun q hq => by omega, fun h hh => ?_, fun h hh _ q => ?_, ?_, ?_, ?_⟩
  · unfold WY
    rw [z _ (by omega) (by omega), z _ (by omega) (by omega), z _ (by omega) (by omega), z _ (by omega) (by omega), z _ (by omega) (by omega), show 4 + 12 * h = 3 + 12 * h + 1 by omega, bgD_1 (by omega) (by decide)]
    exact ⟨Nat.le_refl _, rfl, by decide⟩
  · exact absurd (z _ (by omega) (by omega)) q
  · rw [z2, z 4 (by decide) (by decide)]; rfl
  · rw [z2]
    exact sm_0 _ 8 (fun q hq => z _ (by omega) (by omega))
  · rw [z2, z 10 (by decide) (by decide), sm_0 _ 8 (fun q hq => z _ (by omega) (by omega))]; rfl
theorem we_add (w : WF N D P b) (e : WE N D a) (h60 : N 2 < 60) (x y v : Nat) : WE (adN N x y v) D a := by
  obtain ⟨⟨g0, g8, g1, g2, g31, g3, g4, g5⟩, r, wh, wo, wz, wd, wq, L, C⟩ := id w
  have h11 : N 11 < 60 := by have := w.le11; omega
  obtain ⟨a1, a2, a3, ⟨b1, b2, b3, b4⟩, a5⟩ := ad_all N x y v h60 h11
  obtain ⟨F, hF⟩ : ∃ F, F = adN N x y v := ⟨_, rfl⟩
  rw [← hF] at a1 a2 a3 b1 b2 b3 b4 a5 ⊢
  obtain ⟨ex, ey, et, t1, t2, t3⟩ := e
  have zp : ∀ q k, q < N 2 → k < 8 → F (92 + 8 * q + k) = N (92 + 8 * q + k) := fun q k hq hk => a5 _ (by omega) (by omega) (by omega) (by omega)
  have zh : ∀ h k, h < 8 → k < 10 → F (12 + 10 * h + k) = N (12 + 10 * h + k) := fun h k hh hk => a5 _ (by omega) (by omega) (by omega) (by omega)
  have zj : ∀ j, j ≠ 2 → j ≠ 11 → j < 92 → F j = N j := fun j h1 h2 h3 => a5 j h1 h2 (by omega) (by omega)
  have f0 := zj 0 (by decide) (by decide) (by decide)
  have f1 := zj 1 (by decide) (by decide) (by decide)
  refine ⟨fun q hq => ?_, fun h hh => ?_, fun h hh ha => ?_, ?_, ?_, ?_⟩
  · rw [a1] at hq
    by_cases c : q = N 2
    · subst c
      unfold WX
      rw [b2, b4 3 (by decide) (by decide), b4 4 (by decide) (by decide), b4 5 (by decide) (by decide), b4 6 (by decide) (by decide), b4 7 (by decide) (by decide)]
      exact ⟨fun z => by omega, Iff.rfl, Nat.le_refl _, fun z => absurd rfl z⟩
    · unfold WX
      rw [zp q 1 (by omega) (by decide), zp q 3 (by omega) (by decide), zp q 4 (by omega) (by decide), zp q 5 (by omega) (by decide), zp q 6 (by omega) (by decide), zp q 7 (by omega) (by decide)]
      exact ex q (by omega)
  · rw [f0] at hh
    unfold WY
    rw [zh h 2 (by omega) (by decide), zh h 4 (by omega) (by decide), zh h 5 (by omega) (by decide), zh h 6 (by omega) (by decide), zh h 7 (by omega) (by decide)]
    exact ey h hh
  · rw [f0] at hh
    unfold WT dst stA
    rw [zh h 3 (by omega) (by decide), zh h 8 (by omega) (by decide), f0, f1]
    exact et h hh ha
  · rw [a1, zj 4 (by decide) (by decide) (by decide), ← t1]
    show sm _ (N 2) + F (92 + 8 * N 2 + 4) = _
    rw [b4 4 (by decide) (by decide)]
    exact sm_same _ _ _ (fun q hq => zp q 4 hq (by decide))
  · have c : ∀ e, e ≠ 0 → cnt (fun q => F (92 + 8 * q + 3)) e (N 2 + 1) = cnt (fun q => N (92 + 8 * q + 3)) e (N 2) := fun e he => by
      rw [cnt, b4 3 (by decide) (by decide), if_neg (fun y => he y.symm), Nat.add_zero]
      exact cnt_same _ _ _ _ (fun q hq => zp q 3 hq (by decide))
    rw [a1, c 2 (by decide), ← t2]
    exact sm_same _ _ _ (fun q hq => zh q 5 hq (by decide))
  · have c : ∀ e, e ≠ 0 → cnt (fun q => F (92 + 8 * q + 3)) e (N 2 + 1) = cnt (fun q => N (92 + 8 * q + 3)) e (N 2) := fun e he => by
      rw [cnt, b4 3 (by decide) (by decide), if_neg (fun y => he y.symm), Nat.add_zero]
      exact cnt_same _ _ _ _ (fun q hq => zp q 3 hq (by decide))
    rw [a1, c 3 (by decide), ← t3, zj 10 (by decide) (by decide) (by decide)]
    congr 1
    exact sm_same _ _ _ (fun q hq => zh q 6 hq (by decide))
theorem cnt_stop2 (st : Nat → Nat) : ∀ n, cnt (fun q => if st q = 0 then 3 else st q) 2 n = cnt st 2 n ∧ cnt (fun q => if st q = 0 then 3 else st q) 3 n = cnt st 3 n + cnt st 0 n := by
  intro n
  induction n with
  | zero => exact ⟨rfl, rfl⟩
  | succ n ih =>
    unfold cnt
    rw [ih.1, ih.2]
    by_cases z : st n = 0
    · rw [if_pos z, if_neg (by omega), if_neg (by omega), if_pos rfl, if_neg (by omega), if_pos z]; exact ⟨rfl, by omega⟩
    · rw [if_neg z, if_neg z]
      refine ⟨rfl, ?_⟩
      split <;> omega
theorem we_stop (w : WF N D P b) (e : WE N D a) : WE (stpN N) D a := by
  have h60 := w.1.2.2.2.1
  have h8 := w.1.2.1
  obtain ⟨ex, ey, et, t1, t2, t3⟩ := e
  have L := w.2.2.2.2.2.2.2.1
  have k0 := w.2.2.2.2.2.2.2.2.1
  have wq := w.2.2.2.2.2.2.1
  obtain ⟨a1, a2, a3, a4⟩ := stp_all L h60
  obtain ⟨F, hF⟩ : ∃ F, F = stpN N := ⟨_, rfl⟩
  rw [← hF] at a1 a2 a3 a4 ⊢
  have f : ∀ j, j ≠ 10 → j ≠ 11 → j < 92 → F j = N j := fun j h1 h2 h3 => a4 j h1 h2 (fun p hp => by omega)
  have zp : ∀ q k, q < N 2 → k < 8 → k ≠ 3 → k ≠ 7 → F (92 + 8 * q + k) = N (92 + 8 * q + k) := fun q k hq hk h3 h7 => a4 _ (by omega) (by omega) (fun p hp => by omega)
  have zh : ∀ h k, h < 8 → k < 10 → F (12 + 10 * h + k) = N (12 + 10 * h + k) := fun h k hh hk => f _ (by omega) (by omega) (by omega)
  have f0 := f 0 (by decide) (by decide) (by decide)
  have f1 := f 1 (by decide) (by decide) (by decide)
  have f2 := f 2 (by decide) (by decide) (by decide)
  have c3 : ∀ e, cnt (fun q => F (92 + 8 * q + 3)) e (N 2) = cnt (fun q => if N (92 + 8 * q + 3) = 0 then 3 else N (92 + 8 * q + 3)) e (N 2) := fun e => cnt_same _ _ _ _ (fun q hq => (a1 q hq).1)
  have c4 := cnt_stop2 (fun q => N (92 + 8 * q + 3)) (N 2)
  rw [cS_cnt] at k0
  refine ⟨fun q hq => ?_, fun h hh => ?_, fun h hh ha => ?_, ?_, ?_, ?_⟩
  · rw [f2] at hq
    obtain ⟨x1, x2, x3, x4⟩ := ex q hq
    unfold WX
    rw [(a1 q hq).1, (a1 q hq).2, zp q 1 hq (by decide) (by decide) (by decide), zp q 4 hq (by decide) (by decide) (by decide), zp q 5 hq (by decide) (by decide) (by decide), zp q 6 hq (by decide) (by decide) (by decide)]
    refine ⟨fun y => ?_, x2, x3, x4⟩
    by_cases c : N (92 + 8 * q + 3) = 0
    · rw [if_pos c]; decide
    · rw [if_neg c] at y ⊢; exact x1 y
  · rw [f0] at hh
    unfold WY
    rw [zh h 2 (by omega) (by decide), zh h 4 (by omega) (by decide), zh h 5 (by omega) (by decide), zh h 6 (by omega) (by decide), zh h 7 (by omega) (by decide)]
    exact ey h hh
  · rw [f0] at hh
    unfold WT dst stA
    rw [zh h 3 (by omega) (by decide), zh h 8 (by omega) (by decide), f0, f1]
    exact et h hh ha
  · rw [f2, f 4 (by decide) (by decide) (by decide), ← t1]
    exact sm_same _ _ _ (fun q hq => zp q 4 hq (by decide) (by decide) (by decide))
  · rw [f2, c3, c4.1, ← t2]
    exact sm_same _ _ _ (fun q hq => zh q 5 hq (by decide))
  · rw [f2, c3, c4.2, ← t3, a2, k0, ← Nat.add_assoc]
    congr 2
    exact sm_same _ _ _ (fun q hq => zh q 6 hq (by decide))
theorem we_take (w : WF N D P b) (e : WE N D a) (hh : h < N 0) (h3 : N (12 + 10 * h + 3) = p + 1) : WE (takN N h p) D a := by
  obtain ⟨⟨g0, g8, g1, g2, g31, g3, g4, g5⟩, r, wh, wo, wz, wd, wq, L, ⟨k0, k1, k2, k3, k4⟩⟩ := id w
  obtain ⟨o1, o2, o3, o4, o5, o6⟩ := wo h hh (by omega)
  have hp : p < N 2 := by omega
  have st : N (92 + 8 * p + 3) = 1 := by
    have := o2
    rw [h3, Nat.add_sub_cancel] at this
    exact this
  have L0 := L.1
  obtain ⟨x1, x2, x3, x4⟩ := e.1 p hp
  obtain ⟨y1, y2, y3⟩ := e.2.1 h hh
  refine we_upd e g8 g2 hh hp ?_ ?_ ?_ (fun _ _ _ => rfl) (fun _ _ _ => rfl) ?_ ?_ (Or.inr ?_) ?_ ?_ ?_
  · intro j hj
    simp (disch := omega) only [takN, tfN, up_eq, up_ne, inc_ne, shN_lo]
  · intro h' hh' hn k hk
    simp (disch := omega) only [takN, tfN, up_eq, up_ne, inc_ne, shN_lo]
  · intro q hq qn k hk
    simp (disch := omega) only [takN, tfN, up_eq, up_ne, inc_ne, shN_lo]
  · unfold WX
    simp (disch := omega) only [takN, tfN, up_eq, up_ne, inc_ne, shN_lo]
    exact ⟨fun z => by omega, x2, x3, x4⟩
  · unfold WY
    simp (disch := omega) only [takN, tfN, up_eq, up_ne, inc_ne, shN_lo]
    exact ⟨y1, y2, y3⟩
  · intro z
    refine absurd ?_ z
    simp (disch := omega) only [takN, up_eq]
  · simp (disch := omega) only [takN, tfN, up_eq, up_ne, inc_ne, shN_lo]
  · simp (disch := omega) only [takN, tfN, up_eq, up_ne, inc_ne, shN_lo]
    rw [st]; simp
  · simp (disch := omega) only [takN, tfN, up_eq, up_ne, inc_ne, shN_lo]
    rw [st]; simp
theorem we_cl (w : WF N D P b) (e : WE N D a) : ∀ d, d ≤ N 0 → WE (clN N (N 0) d) D a := by
  have p60 : ∀ h, h < N 0 → N (12 + 10 * h + 3) ≤ 60 := fun h hh => by
    have := w.1.2.2.2.1
    by_cases z : N (12 + 10 * h + 3) = 0
    · omega
    · have := (w.2.2.2.1 h hh z).1; omega
  have h8 := w.1.2.1
  intro d
  induction d with
  | zero => intro _; exact e
  | succ d ih =>
    intro hd
    have e1 := ih (by omega)
    have w1 := wf_cl w d (by omega)
    have e0 := clN_lo N (N 0) 0 (by decide) d
    have e3 := clN_hd N (N 0) (N 0 - 1 - d) 3 (by omega) (by decide) d (by omega) p60
    unfold clN
    by_cases z : N (12 + 10 * (N 0 - 1 - d) + 3) = 0
    · rw [if_pos z]; exact e1
    · rw [if_neg z]
      exact we_take w1 e1 (by omega) (by omega)
def WEs (s : S3) : Prop := WE s.1 s.2.1 8
theorem we_it (w : WFs s b) (e : WEs s) (n : Nat) (hb : b + n ≤ 20481) : WEs (itT s n) := by
  induction n with
  | zero => exact e
  | succ n ih => exact we_step (wf_it w n (by omega)) (show b + n ≤ 20480 by omega) (ih (by omega))
