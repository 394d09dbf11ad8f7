/-! THE PURE PART, 13: the class loads a head -/
variable {zz : Nat}
variable {M M' : Mem} {c h p t : Nat} {N N' P P' : Nat → Nat} {D D' : Nat → UInt64}
/-- the row of those that wait, and their places -/
def LN (N P : Nat → Nat) : Prop := N 11 ≤ 60 ∧ (∀ k, k < N 11 → N (572 + k) < N 2 ∧ N (92 + 8 * N (572 + k) + 3) = 0 ∧ P (N (572 + k)) = k) ∧ ∀ q, q < N 2 → N (92 + 8 * q + 3) = 0 → P q < N 11 ∧ N (572 + P q) = q
theorem rmP_lo {N : Nat → Nat} {k i x : Nat} (h : x < 572 + k ∨ 572 + i ≤ x) : rmP N k i x = N x := if_neg (by omega)
theorem up_at {α : Type} {f : Nat → α} {j i : Nat} {v : α} (h : i = j) : up f j v i = v := if_pos h
theorem hp_eq {x h : Nat} (hx : x < 2 ^ 30) (hh : h < 8) : hp x = nI h ↔ x = h + 1 := by
  unfold hp
  by_cases z : x = 0
  · rw [if_pos z]
    refine ⟨fun e => absurd e ?_, fun e => by omega⟩
    intro e
    have : nI h < 0 := by rw [← e]; decide
    exact nI_pos (by omega) this
  · rw [if_neg z]
    exact (nI_eq (by omega) (by omega)).trans (by omega)
theorem trI_ne {M : Mem} {a i k : Nat} {x : Int32} (h : k ≠ 5) : trI M a x i k = gI M (a + i) k := if_neg (fun z => h z.1)
theorem tr_place {X : Mem} {a q s y k : Nat} (e4 : gI X (a + q) 4 = nI s) (e5 : gI X (a + q) 5 = if s = 0 then nI y else -5) (hs : s < 2 ^ 31) (hy : s = 0 → y < 2 ^ 30) (hk : k < 2 ^ 30) : trI X a (nI k) q 5 = if s = 0 then nI (if k < y then y - 1 else y) else -5 := by
  unfold trI
  rw [e4, e5]
  by_cases z : s = 0
  · have hy := hy z
    rw [if_pos z, if_pos z]
    have q := nI_leI (a := y) (b := k) (by omega) (by omega)
    by_cases w : k < y
    · rw [if_pos ⟨rfl, by rw [z]; rfl, fun v => by have := q.mp v; omega⟩, if_pos w]
      exact pk_sub (b := 1) (by omega)
    · rw [if_neg (fun v => v.2.2 (q.mpr (by omega))), if_neg w]
  · rw [if_neg z, if_neg z, if_neg (fun y => z ((nI_eq (b := 0) hs (by decide)).mp y.2.1))]
def fiM (M : Mem) (c h p : Nat) : Mem := sI (sD (sD (sI (trM M c (c + 14 + p)) (c + 5 + h) 6 (gI (trM M c (c + 14 + p)) (c + 14 + p) 0)) (c + 5 + h) 7 (gD (trM M c (c + 14 + p)) (c + 1) 3)) (c + 5 + h) 8 (gD (trM M c (c + 14 + p)) (c + 1) 3)) (c + 5 + h) 9 0
def fiP (P : Nat → Nat) (k : Nat) : Nat → Nat := fun q => if k < P q then P q - 1 else P q
theorem cr_fill (cr : CR M c N D P) (hh : h < N 0) (h0 : N 0 ≤ 8) (h2 : N 2 ≤ 60) (t8 : ∀ h, h < N 0 → N (12 + 10 * h + 3) ≠ 0 → N (12 + 10 * h + 8) - 1 < 10) (L : LN N P) (k : Nat) (hk : k < N 11) (hp : N (572 + k) = p) (hst : ∀ q, q < N 2 → N (92 + 8 * q + 3) ≤ 3) : CR (fiM M c h p) c (fiN N h k) (up D (5 + 12 * h) (D 0)) (fiP P k) := by
  obtain ⟨S, ⟨s1, s2, s3, s4, s5⟩, cq, ch, cd, pc, pa⟩ := id cr
  obtain ⟨x3, x4, x5, x6, x10, x11, x12, x13⟩ := ch h (by omega)
  obtain ⟨y1, y2, y3⟩ := cd h hh
  obtain ⟨L0, L1, L2⟩ := L
  obtain ⟨l1, l2, l3⟩ := L1 k hk
  rw [hp] at l1 l2 l3
  obtain ⟨z1, z2, z3, z4, z5, z6, z7, z8, z10, z9⟩ := pc p l1
  have w0 := (S.2.2.2.1 p (by omega)).2
  have c0 : gD M (c + 1) 3 = D 0 := (cq 0 (by decide)).2
  rw [if_pos l2, l3] at z5
  unfold fiN
  rw [hp]
  refine cr_upd cr h p h0 h2 t8 ?_ ?_ rfl ?_ ?_ ?_ ?_ ?_ ?_ ?_ ?_ ?_ ?_ ?_ ?_ ?_ ?_ l1
  · intro r k q1 q2 q3
    simp (disch := omega) only [fiM, trM, gI_sD, gI_ne, gI_bkN]
  · intro r k q1 q2 q3
    simp (disch := omega) only [fiM, trM, gD_sI, gD_ne, gD_bkN]
  · intro q hq qn k hk
    simp (disch := omega) only [fiM, trM, gI_sD, gI_ne, gI_bkY, trI_ne]
  · intro q hq qn k
    simp (disch := omega) only [fiM, trM, gD_sI, gD_ne, gD_bkY, idD]
  · simp (disch := omega) only [fiM, trM, gI_sD, gI_ne, gI_bkN]
  · simp (disch := omega) only [fiM, trM, gI_sD, gI_ne, gI_bkY, trI_ne]
  · intro j hj
    simp (disch := omega) only [up_ne, rmP_lo]
  · intro h' hh' hn k hk
    simp (disch := omega) only [up_ne, rmP_lo]
  · intro q hq qn k hk
    simp (disch := omega) only [up_ne, rmP_lo]
  · intro j hj
    simp (disch := omega) only [up_ne]
  · intro h' hh' hn k hk
    simp (disch := omega) only [up_ne]
  · intro q hq qn
    simp (disch := omega) only [up_ne]
  · intro q hq qn
    have q1 := pc q hq
    simp (disch := omega) only [fiM, trM, gI_sD, gI_ne, gI_bkY]
    rw [z5]
    exact tr_place q1.2.2.2.1 q1.2.2.2.2.1 (Nat.lt_of_le_of_lt (hst q hq) (by decide)) (fun z => by have := (L2 q hq z).1; omega) (by omega)
  · refine ⟨?_, ?_, ?_, ?_, ?_, ?_, ?_, ?_⟩ <;> simp (disch := omega) only [fiM, trM, gI_sD, gI_ne, gI_eq, gI_bkN, gI_bkY, trI_ne, up_ne, up_eq, rmP_lo, x3, x4, x5, w0, x10, x11, x12, x13]
    exact (hp_s p).symm
  · intro _
    refine ⟨?_, ?_, fun _ => ⟨?_, ?_, ?_⟩⟩
    · simp (disch := omega) only [fiM, trM, gD_sI, gD_ne, gD_bkN, up_ne, y1]
    · simp (disch := omega) only [fiM, trM, gD_sI, gD_ne, gD_bkN, up_ne, y2]
    · simp (disch := omega) only [fiM, trM, gD_sI, gD_ne, gD_eq, gD_bkN, up_at, c0]
    · simp (disch := omega) only [fiM, trM, gD_sI, gD_ne, gD_eq, gD_bkN, up_at, c0]
    · simp (disch := omega) only [fiM, gI_eq, up_eq]
      rfl
  · refine ⟨?_, ?_, ?_, ?_, ?_, ?_, ?_, ?_, ?_, fun q => ?_⟩
    all_goals try simp (disch := omega) only [fiM, trM, gI_sD, gI_ne, gI_eq, gI_bkN, gI_bkY, trI_ne, gD_sI, gD_ne, gD_bkY, idD, up_ne, up_eq, rmP_lo, z1, z2, z3, z6, z7, z8, z10]
    · rfl
    · rfl
    · simp (disch := omega) only [up_ne, rmP_lo] at q
      exact z9 q
theorem onC_fi (hh : h < 8) (hp : p < 60) : OnC c M (fiM M c h p) := by
  refine ⟨fun r k q => ?_, fun r k q => ?_, fun _ _ _ => rfl, rfl⟩ <;> simp (disch := omega) only [fiM, trM, gI_sD, gI_ne, gD_sI, gD_ne, gI_bkN, gD_bkN]
theorem c_load {K : Mem → Prop} (cr : CR M c N D P) (hh : h < N 0) (h0 : N 0 ≤ 8) (h2 : N 2 ≤ 60) (t8 : ∀ h, h < N 0 → N (12 + 10 * h + 3) ≠ 0 → N (12 + 10 * h + 8) - 1 < 10) (L : LN N P) (hst : ∀ q, q < N 2 → N (92 + 8 * q + 3) ≤ 3) (hf : N (12 + 10 * h + 1) ≤ 2) (hpp : ∀ q, q < N 2 → N (92 + 8 * q + 0) ≤ 1 ∧ N (92 + 8 * q + 6) < 2 ^ 30) (H : ∀ M' P', CR M' c (flN N h) (flD N D h) P' → (P' = if ff N h 61 0 = N 11 then P else fiP P (ff N h 61 0)) → OnC c M M' → K M') : w_X0_load (448 + zz) M c (c + 5 + h) K := by
  obtain ⟨S, ⟨s1, s2, s3, s4, s5⟩, cq, ch, cd, pc, pa⟩ := id cr
  obtain ⟨x3, x4, x5, x6, x10, x11, x12, x13⟩ := ch h (by omega)
  obtain ⟨C, ⟨r0, r1, r2, r3, r4⟩, hhn, hpn, -⟩ := id S
  have cpos := C.pos
  have hh8 : h < 8 := by omega
  have x0 := (hhn h hh8).2
  obtain ⟨L0, L1, L2⟩ := id L
  refine ⟨kc0 (zz := zz) C, m_rR r4 (a_len (kcA (zz := zz) C) (by decide) (m_eq ?_))⟩
  rw [a_ln (kcA (zz := zz) C)]
  refine lpU (fun f i o => w_X0_load_L14 (448 + zz) K f M c (c + 5 + h) o (c + 13) (nI 60) (nI i)) (fun i o => (o = 0 ∧ ∀ q, q < i → q < N 2 → N (92 + 8 * q + 3) = 0 → ¬ el N h q) ∨ (∃ p, o = c + 14 + p ∧ p < i ∧ p < N 2 ∧ N (92 + 8 * p + 3) = 0 ∧ el N h p ∧ ∀ q, q < i → q < N 2 → N (92 + 8 * q + 3) = 0 → el N h q → P p ≤ P q)) 60 ?_ ?_ 4000 0 0 (by omega) (by omega) (Or.inl ⟨rfl, fun q hq => by omega⟩)
  · intro f o I
    refine pk_le 60 60 (fun _ => ?_) (fun z => by omega)
    have fle := ff_le N h 61 0 (Nat.zero_le _)
    rcases I with ⟨e, I⟩ | ⟨p, e, e1, e2, e3, e4, I⟩
    · refine cT e ?_
      have fe : ff N h 61 0 = N 11 := by
        by_cases z : ff N h 61 0 = N 11
        · exact z
        · have y := ff_yes N h 61 0 (Nat.zero_le _) (by omega) z
          obtain ⟨l1, l2, l3⟩ := L1 (ff N h 61 0) (by omega)
          exact absurd y (I _ (by omega) l1 l2)
      refine H M P ?_ (by rw [if_pos fe]) (OnC.rf c M)
      unfold flN flD
      rw [if_pos fe, if_pos fe]; exact cr
    · subst e
      refine cF (by omega) ⟨kc0 (zz := zz) C, c_takeFromRow S p (by omega) ?_⟩
      have rr : gR (trM M c (c + 14 + p)) c 0 = c + 1 := r0
      refine m_rR rr ⟨kcP (zz := zz) C 0 (by decide), kch (zz := zz) C h hh8, kcp (zz := zz) C p (by omega), kch (zz := zz) C h hh8, m_eq (m_eq (m_eq (m_eq ?_)))⟩
      obtain ⟨m1, m2⟩ := L2 p e2 e3
      have fe : ff N h 61 0 = P p := by
        have no : ¬ ff N h 61 0 < P p := by
          intro z
          have y := ff_yes N h 61 0 (Nat.zero_le _) (by omega) (by omega)
          obtain ⟨l1, l2, l3⟩ := L1 (ff N h 61 0) (by omega)
          have := I _ (by omega) l1 l2 y
          omega
        have no2 : ¬ P p < ff N h 61 0 := by
          intro z
          have y := ff_no N h 61 0 (P p) (Nat.zero_le _) z
          rw [m2] at y
          exact y e4
        omega
      have fn : ¬ ff N h 61 0 = N 11 := by omega
      refine H (fiM M c h p) (fiP P (P p)) ?_ (by rw [if_neg fn, fe]) (onC_fi hh8 (by omega))
      unfold flN flD
      rw [if_neg fn, if_neg fn, fe]
      exact cr_fill cr hh h0 h2 t8 L (P p) m1 m2 hst
  · intro f i o hi I ih
    refine pk_le 60 i (fun z => by omega) (fun _ => a_idx (c + 13) 11 60 i _ (kcA (zz := zz) C) (by decide) rfl hi (by decide) (hpn i hi).1 ⟨kcp (zz := zz) C i hi, ?_⟩)
    have skip : (∀ (_ : i < N 2) (_ : N (92 + 8 * i + 3) = 0), ¬ el N h i) → w_X0_load_L14 (448 + zz) K f M c (c + 5 + h) o (c + 13) (nI 60) (nI i + 1) := by
      intro hn
      rw [nI_1]
      refine ih o ?_
      rcases I with ⟨e, I⟩ | ⟨p, e, e1, e2, e3, e4, I⟩
      · refine Or.inl ⟨e, fun q hq q2 q3 => ?_⟩
        by_cases z : q = i
        · subst z; exact hn q2 q3
        · exact I q (by omega) q2 q3
      · refine Or.inr ⟨p, e, by omega, e2, e3, e4, fun q hq q2 q3 q4 => ?_⟩
        by_cases z : q = i
        · subst z; exact absurd q4 (hn q2 q3)
        · exact I q (by omega) q2 q3 q4
    by_cases i2 : i < N 2
    · obtain ⟨z1, z2, z3, z4, z5, z6, z7, z8, z10, z9⟩ := pc i i2
      have g3 := hst i i2
      obtain ⟨g0, g6⟩ := hpp i i2
      rw [z4]
      by_cases st0 : N (92 + 8 * i + 3) = 0
      · refine cP (by rw [st0]; rfl) ⟨kch (zz := zz) C h hh8, ?_⟩
        rw [z8, x0]
        by_cases e6 : N (92 + 8 * i + 6) = h + 1
        · exact cT ((hp_eq g6 hh8).mpr e6) (m_eq (skip (fun _ _ y => y.2 e6)))
        · refine cF (fun z => e6 ((hp_eq g6 hh8).mp z)) ?_
          refine c_takes C h i (N (12 + 10 * h + 1)) (N (92 + 8 * i + 0)) hh8 hi x4 z1 hf g0 (fun tk => ?_) (fun tk => ?_)
          · have eli : el N h i := ⟨tk, e6⟩
            refine cF (by decide) ?_
            rcases I with ⟨e, I⟩ | ⟨p, e, e1, e2, e3, e4, I⟩
            · refine cT e (m_eq ?_)
              rw [nI_1]
              refine ih _ (Or.inr ⟨i, rfl, by omega, i2, st0, eli, fun q hq q2 q3 q4 => ?_⟩)
              by_cases z : q = i
              · rw [z]; exact Nat.le_refl _
              · exact absurd q4 (I q (by omega) q2 q3)
            · subst e
              refine cF (by omega) ⟨kcp (zz := zz) C p (by omega), ?_⟩
              have pz := pc p e2
              rw [pz.2.2.2.2.1, if_pos e3, z5, if_pos st0]
              have b1 := (L2 p e2 e3).1
              have b2 := (L2 i i2 st0).1
              refine pk_le (P p) (P i) (fun w => m_eq ?_) (fun w => m_eq ?_)
              · rw [nI_1]
                refine ih _ (Or.inr ⟨p, rfl, by omega, e2, e3, e4, fun q hq q2 q3 q4 => ?_⟩)
                by_cases z : q = i
                · rw [z]; exact w
                · exact I q (by omega) q2 q3 q4
              · rw [nI_1]
                refine ih _ (Or.inr ⟨i, rfl, by omega, i2, st0, eli, fun q hq q2 q3 q4 => ?_⟩)
                by_cases z : q = i
                · rw [z]; exact Nat.le_refl _
                · exact Nat.le_trans (Nat.le_of_lt w) (I q (by omega) q2 q3 q4)
          · exact cT rfl (m_eq (skip (fun _ _ y => tk y.1)))
      · exact cN (fun z => st0 ((nI_eq (b := 0) (by omega) (by decide)).mp z)) (m_eq (skip (fun _ y => absurd y st0)))
    · rw [(pa i (by omega) hi).1]
      exact cN (by decide) (m_eq (skip (fun y => absurd y i2)))

