/-! THE PURE PART, 11: the class ends a test -/
variable {zz : Nat}
variable {M M' : Mem} {c h p t : Nat} {N N' P P' : Nat → Nat} {D D' : Nat → UInt64}
theorem jv_le (x8 x7 : UInt64) (a b : Nat) (v lo up : UInt64) : jv x8 x7 a b v lo up = 0 ∨ jv x8 x7 a b v lo up = 1 ∨ jv x8 x7 a b v lo up = 2 ∨ jv x8 x7 a b v lo up = 13 ∨ jv x8 x7 a b v lo up = 14 := by
  unfold jv
  split
  · split
    · split
      · split
        · exact Or.inr (Or.inr (Or.inr (Or.inl rfl)))
        · exact Or.inr (Or.inr (Or.inl rfl))
      · exact Or.inl rfl
    · exact Or.inr (Or.inr (Or.inr (Or.inr rfl)))
  · exact Or.inr (Or.inl rfl)
theorem shN_lo {N : Nat → Nat} {n i x : Nat} (h : x ≤ 572 + i) : shN N n i x = N x := if_neg (by omega)
theorem pfI_ne {M : Mem} {a i k : Nat} (h : k ≠ 5) : pfI M a i k = gI M (a + i) k := if_neg (fun z => h z.1)
def jA (M : Mem) (ho po : Nat) : Mem := sI (sI M po 4 2) ho 11 (gI (sI M po 4 2) ho 11 + 1)
def jR (M : Mem) (ho po : Nat) (x : Int32) : Mem := sI (sI (sI (sI M po 4 3) po 5 (-5)) po 10 x) ho 12 (gI (sI (sI (sI M po 4 3) po 5 (-5)) po 10 x) ho 12 + 1)
def jT (M : Mem) (c ho po : Nat) : Mem := pfM (sI (sI M po 7 (gI M po 7 + 1)) ho 13 (gI (sI M po 7 (gI M po 7 + 1)) ho 13 + 1)) c po
theorem c_judge {K : Mem → Prop} (S : Sh M c) (h p : Nat) (hh : h < 8) (hp : p < 60) (a b r : Nat) (ea : gI M (c + 5 + h) 5 = nI a) (eb : gI M c 5 = nI b) (er : gI M (c + 14 + p) 7 = nI r) (ba : a < 2 ^ 31) (bb : b < 2 ^ 31) (br : r ≤ 2) (hv : vf_n64 (FP.ddiv (gD M (c + 5 + h) 7) 4611686018427387904)) (s : Nat) (es : jv (gD M (c + 5 + h) 8) (gD M (c + 5 + h) 7) a b (gD M (c + 14 + p) 9) (gD M (c + 1 + 1) 3) (gD M (c + 1 + 2) 3) = s)
    (HA : s = 0 → K (jA M (c + 5 + h) (c + 14 + p))) (HR : s ≠ 0 → (s < 10 ∨ r = 2) → K (jR M (c + 5 + h) (c + 14 + p) (nI (s % 10)))) (HT : s ≠ 0 → ¬ (s < 10 ∨ r = 2) → K (jT M c (c + 5 + h) (c + 14 + p))) : w_X0_judge (448 + zz) M c (c + 14 + p) (c + 5 + h) K := by
  refine ⟨kc0 (zz := zz) S.1, c_cause S h p hh hp a b ea eb ba bb hv ?_⟩
  have hs := jv_le (gD M (c + 5 + h) 8) (gD M (c + 5 + h) 7) a b (gD M (c + 14 + p) 9) (gD M (c + 1 + 1) 3) (gD M (c + 1 + 2) 3)
  rw [es] at hs ⊢
  have hb := kch (zz := zz) S.1 h hh
  have pb := kcp (zz := zz) S.1 p hp
  have S' : Sh (sI (sI M (c + 14 + p) 7 (gI M (c + 14 + p) 7 + 1)) (c + 5 + h) 13 (gI (sI M (c + 14 + p) 7 (gI M (c + 14 + p) 7 + 1)) (c + 5 + h) 13 + 1)) c := by
    refine S.to (fun x hx => ?_) (fun x hx => ?_) (fun _ _ _ _ => rfl) rfl
    · rw [gI_ne (Or.inr (by decide)), gI_ne (Or.inr (by decide))]
    · rw [gI_ne (Or.inr (by decide)), gI_ne (Or.inr (by decide))]
  rcases hs with e | e | e | e | e <;> subst e
  · exact cF (by decide) (cN (by decide) (cP rfl ⟨pb, m_eq ⟨hb, m_eq (HA rfl)⟩⟩))
  · exact cF (by decide) (cN (by decide) (cN (by decide) ⟨pb, pb, m_eq (m_eq (m_eq ⟨hb, m_eq (HR (by decide) (Or.inl (by decide)))⟩))⟩))
  · exact cF (by decide) (cN (by decide) (cN (by decide) ⟨pb, pb, m_eq (m_eq (m_eq ⟨hb, m_eq (HR (by decide) (Or.inl (by decide)))⟩))⟩))
  · refine cT rfl (cN (by decide) ⟨pb, ?_⟩)
    rw [er]
    refine pk_le 2 r (fun z => ⟨pb, m_eq (m_eq (m_eq ⟨hb, m_eq (HR (by decide) (Or.inr (by omega)))⟩))⟩) (fun z => ?_)
    have g := HT (by decide) (fun y => by omega)
    unfold jT at g
    rw [er] at g S'
    exact m_eq ⟨hb, m_eq (c_putInFront S' p hp g)⟩
  · refine cF (by decide) (cP rfl (cN (by decide) ⟨pb, ?_⟩))
    rw [er]
    refine pk_le 2 r (fun z => ⟨pb, m_eq (m_eq (m_eq ⟨hb, m_eq (HR (by decide) (Or.inr (by omega)))⟩))⟩) (fun z => ?_)
    have g := HT (by decide) (fun y => by omega)
    unfold jT at g
    rw [er] at g S'
    exact m_eq ⟨hb, m_eq (c_putInFront S' p hp g)⟩
def et1 (M : Mem) (ho po : Nat) (v : UInt64) : Mem := sI (sD M po 9 v) po 8 (gI (sD M po 9 v) ho 0)
def upI (M : Mem) (r k : Nat) : Mem := sI M r k (gI M r k + 1)
def etM (M : Mem) (ho po : Nat) (v : UInt64) : Mem := sI (upI (upI (upI (et1 M ho po v) po 6) ho 10) ho 5) ho 6 (-5)

theorem hp_s (h : Nat) : hp (h + 1) = nI h := by unfold hp; rw [if_neg (by omega), Nat.add_sub_cancel]
theorem cp_s {x : Nat} (h : x ≠ 0) : cp x = nI x := if_neg h
theorem pf_place {X : Mem} {a q s y : Nat} (e4 : gI X (a + q) 4 = nI s) (e5 : gI X (a + q) 5 = if s = 0 then nI y else -5) (hs : s < 2 ^ 31) : pfI X a q 5 = if s = 0 then nI (y + 1) else -5 := by
  unfold pfI
  rw [e4, e5]
  by_cases z : s = 0
  · rw [if_pos z, if_pos z, if_pos ⟨rfl, by rw [z]; rfl⟩, nI_1]
  · rw [if_neg z, if_neg z, if_neg (fun y => z ((nI_eq (b := 0) hs (by decide)).mp y.2))]

theorem cr_acc (cr : CR M c N D P) (hh : h < N 0) (hp : p < N 2) (h0 : N 0 ≤ 8) (h2 : N 2 ≤ 60) (t8 : ∀ h, h < N 0 → N (12 + 10 * h + 3) ≠ 0 → N (12 + 10 * h + 8) - 1 < 10) (st : N (92 + 8 * p + 3) = 1) : CR (sD (jA (etM M (c + 5 + h) (c + 14 + p) (vl N D h p t)) (c + 5 + h) (c + 14 + p)) (c + 5 + h) 1 (gnE (D (3 + 12 * h)) (N (12 + 10 * h + 0)))) c (enA N h p) (enD N D h p t) (P) := by
  obtain ⟨S, ⟨s1, s2, s3, s4, s5⟩, cq, ch, cd, pc, pa⟩ := id cr
  obtain ⟨x3, x4, x5, x6, x10, x11, x12, x13⟩ := ch h (by omega)
  obtain ⟨y1, y2, y3⟩ := cd h hh
  obtain ⟨z1, z2, z3, z4, z5, z6, z7, z8, z10, z9⟩ := pc p hp
  have x0 := (S.2.2.1 h (by omega)).2
  have w0 := (S.2.2.2.1 p (by omega)).2
  refine cr_upd cr h p h0 h2 t8 ?_ ?_ rfl ?_ ?_ ?_ ?_ ?_ ?_ ?_ ?_ ?_ ?_ ?_ ?_ ?_ ?_ hp
  · intro r k q1 q2 q3
    simp (disch := omega) only [jA, etM, upI, et1, gI_sD, gD_sI, gI_eq, gI_ne, gD_eq, gD_ne, gI_bkY, gI_bkN, gD_bkY, gD_bkN, pfI_ne, idD]
  · intro r k q1 q2 q3
    simp (disch := omega) only [jA, etM, upI, et1, gI_sD, gD_sI, gI_eq, gI_ne, gD_eq, gD_ne, gI_bkY, gI_bkN, gD_bkY, gD_bkN, pfI_ne, idD]
  · intro q hq qn k hk
    simp (disch := omega) only [jA, etM, upI, et1, gI_sD, gD_sI, gI_eq, gI_ne, gD_eq, gD_ne, gI_bkY, gI_bkN, gD_bkY, gD_bkN, pfI_ne, idD]
  · intro q hq qn k
    simp (disch := omega) only [jA, etM, upI, et1, gI_sD, gD_sI, gI_eq, gI_ne, gD_eq, gD_ne, gI_bkY, gI_bkN, gD_bkY, gD_bkN, pfI_ne, idD]
  · simp (disch := omega) only [jA, etM, upI, et1, gI_sD, gD_sI, gI_eq, gI_ne, gD_eq, gD_ne, gI_bkY, gI_bkN, gD_bkY, gD_bkN, pfI_ne, idD]
  · simp (disch := omega) only [jA, etM, upI, et1, gI_sD, gD_sI, gI_eq, gI_ne, gD_eq, gD_ne, gI_bkY, gI_bkN, gD_bkY, gD_bkN, pfI_ne, idD]
  · intro j hj
    simp (disch := omega) only [enA, enR, enT, rjN, tfN, eA, eA0, up_eq, up_ne, inc_eq, inc_ne, shN_lo]
  · intro h' hh' hn k hk
    simp (disch := omega) only [enA, enR, enT, rjN, tfN, eA, eA0, up_eq, up_ne, inc_eq, inc_ne, shN_lo]
  · intro q hq qn k hk
    simp (disch := omega) only [enA, enR, enT, rjN, tfN, eA, eA0, up_eq, up_ne, inc_eq, inc_ne, shN_lo]
  · intro j hj
    simp (disch := omega) only [enD, eD0, up_ne]
  · intro h' hh' hn k hk
    simp (disch := omega) only [enD, eD0, up_ne]
  · intro q hq qn
    simp (disch := omega) only [enD, eD0, up_ne]
  · intro q hq qn
    simp (disch := omega) only [jA, etM, upI, et1, gI_sD, gD_sI, gI_eq, gI_ne, gD_eq, gD_ne, gI_bkY, gI_bkN, gD_bkY, gD_bkN, pfI_ne, idD]
    exact (pc q hq).2.2.2.2.1
  · refine ⟨?_, ?_, ?_, ?_, ?_, ?_, ?_, ?_⟩ <;> simp (disch := omega) only [jA, etM, upI, et1, gI_sD, gD_sI, gI_eq, gI_ne, gD_eq, gD_ne, gI_bkY, gI_bkN, gD_bkY, gD_bkN, pfI_ne, idD, enA, enR, enT, rjN, tfN, eA, eA0, up_eq, up_ne, inc_eq, inc_ne, shN_lo, x3, x4, x5, x6, x10, x11, x12, x13, nI_1]
    rfl
  · intro _
    refine ⟨?_, ?_, fun q => absurd q ?_⟩
    · simp (disch := omega) only [jA, etM, upI, et1, gI_sD, gD_sI, gI_eq, gI_ne, gD_eq, gD_ne, gI_bkY, gI_bkN, gD_bkY, gD_bkN, pfI_ne, idD, enD, up_eq]
    · simp (disch := omega) only [jA, etM, upI, et1, gI_sD, gD_sI, gI_eq, gI_ne, gD_eq, gD_ne, gI_bkY, gI_bkN, gD_bkY, gD_bkN, pfI_ne, idD, enD, eD0, up_ne, y2]
    · simp (disch := omega) only [enA, enR, enT, rjN, tfN, eA, eA0, up_eq, up_ne, inc_eq, inc_ne, shN_lo]
      exact fun z => z rfl
  · refine ⟨?_, ?_, ?_, ?_, ?_, ?_, ?_, ?_, ?_, fun _ => ?_⟩
    · simp (disch := omega) only [jA, etM, upI, et1, gI_sD, gD_sI, gI_eq, gI_ne, gD_eq, gD_ne, gI_bkY, gI_bkN, gD_bkY, gD_bkN, pfI_ne, idD, enA, enR, enT, rjN, tfN, eA, eA0, up_eq, up_ne, inc_eq, inc_ne, shN_lo, x0, z1, z2, z3, z4, z6, z7, z8, z10, nI_1]
    · simp (disch := omega) only [jA, etM, upI, et1, gI_sD, gD_sI, gI_eq, gI_ne, gD_eq, gD_ne, gI_bkY, gI_bkN, gD_bkY, gD_bkN, pfI_ne, idD, enA, enR, enT, rjN, tfN, eA, eA0, up_eq, up_ne, inc_eq, inc_ne, shN_lo, x0, z1, z2, z3, z4, z6, z7, z8, z10, nI_1]
    · simp (disch := omega) only [jA, etM, upI, et1, gI_sD, gD_sI, gI_eq, gI_ne, gD_eq, gD_ne, gI_bkY, gI_bkN, gD_bkY, gD_bkN, pfI_ne, idD, enA, enR, enT, rjN, tfN, eA, eA0, up_eq, up_ne, inc_eq, inc_ne, shN_lo, x0, z1, z2, z3, z4, z6, z7, z8, z10, nI_1]
    · simp (disch := omega) only [jA, etM, upI, et1, gI_sD, gD_sI, gI_eq, gI_ne, gD_eq, gD_ne, gI_bkY, gI_bkN, gD_bkY, gD_bkN, pfI_ne, idD, enA, enR, enT, rjN, tfN, eA, eA0, up_eq, up_ne, inc_eq, inc_ne, shN_lo, x0, z1, z2, z3, z4, z6, z7, z8, z10, nI_1]
      rfl
    · simp (disch := omega) only [jA, etM, upI, et1, gI_sD, gD_sI, gI_eq, gI_ne, gD_eq, gD_ne, gI_bkY, gI_bkN, gD_bkY, gD_bkN, pfI_ne, idD, enA, enR, enT, rjN, tfN, eA, eA0, up_eq, up_ne, inc_eq, inc_ne, shN_lo, x0, z1, z2, z3, z4, z6, z7, z8, z10, nI_1]
      rw [z5, st]; rfl
    · simp (disch := omega) only [jA, etM, upI, et1, gI_sD, gD_sI, gI_eq, gI_ne, gD_eq, gD_ne, gI_bkY, gI_bkN, gD_bkY, gD_bkN, pfI_ne, idD, enA, enR, enT, rjN, tfN, eA, eA0, up_eq, up_ne, inc_eq, inc_ne, shN_lo, x0, z1, z2, z3, z4, z6, z7, z8, z10, nI_1]
    · simp (disch := omega) only [jA, etM, upI, et1, gI_sD, gD_sI, gI_eq, gI_ne, gD_eq, gD_ne, gI_bkY, gI_bkN, gD_bkY, gD_bkN, pfI_ne, idD, enA, enR, enT, rjN, tfN, eA, eA0, up_eq, up_ne, inc_eq, inc_ne, shN_lo, x0, z1, z2, z3, z4, z6, z7, z8, z10, nI_1]
    · simp (disch := omega) only [jA, etM, upI, et1, gI_sD, gD_sI, gI_eq, gI_ne, gD_eq, gD_ne, gI_bkY, gI_bkN, gD_bkY, gD_bkN, pfI_ne, idD, enA, enR, enT, rjN, tfN, eA, eA0, up_eq, up_ne, inc_eq, inc_ne, shN_lo, x0, z1, z2, z3, z4, z6, z7, z8, z10, nI_1]
      exact (hp_s h).symm
    · simp (disch := omega) only [jA, etM, upI, et1, gI_sD, gD_sI, gI_eq, gI_ne, gD_eq, gD_ne, gI_bkY, gI_bkN, gD_bkY, gD_bkN, pfI_ne, idD, enA, enR, enT, rjN, tfN, eA, eA0, up_eq, up_ne, inc_eq, inc_ne, shN_lo, x0, z1, z2, z3, z4, z6, z7, z8, z10, nI_1]
    · simp (disch := omega) only [jA, etM, upI, et1, gI_sD, gD_sI, gI_eq, gI_ne, gD_eq, gD_ne, gI_bkY, gI_bkN, gD_bkY, gD_bkN, pfI_ne, idD, enD, eD0, up_ne, up_eq]

theorem cr_rej (cr : CR M c N D P) (hh : h < N 0) (hp : p < N 2) (h0 : N 0 ≤ 8) (h2 : N 2 ≤ 60) (t8 : ∀ h, h < N 0 → N (12 + 10 * h + 3) ≠ 0 → N (12 + 10 * h + 8) - 1 < 10) (st : N (92 + 8 * p + 3) = 1) (e : Nat) (he : e ≠ 0) (he5 : e ≤ 5) : CR (sD (jR (etM M (c + 5 + h) (c + 14 + p) (vl N D h p t)) (c + 5 + h) (c + 14 + p) (nI e)) (c + 5 + h) 1 (gnE (D (3 + 12 * h)) (N (12 + 10 * h + 0)))) c (enR N h p e) (enD N D h p t) (P) := by
  obtain ⟨S, ⟨s1, s2, s3, s4, s5⟩, cq, ch, cd, pc, pa⟩ := id cr
  obtain ⟨x3, x4, x5, x6, x10, x11, x12, x13⟩ := ch h (by omega)
  obtain ⟨y1, y2, y3⟩ := cd h hh
  obtain ⟨z1, z2, z3, z4, z5, z6, z7, z8, z10, z9⟩ := pc p hp
  have x0 := (S.2.2.1 h (by omega)).2
  have w0 := (S.2.2.2.1 p (by omega)).2
  refine cr_upd cr h p h0 h2 t8 ?_ ?_ rfl ?_ ?_ ?_ ?_ ?_ ?_ ?_ ?_ ?_ ?_ ?_ ?_ ?_ ?_ hp
  · intro r k q1 q2 q3
    simp (disch := omega) only [jR, etM, upI, et1, gI_sD, gD_sI, gI_eq, gI_ne, gD_eq, gD_ne, gI_bkY, gI_bkN, gD_bkY, gD_bkN, pfI_ne, idD]
  · intro r k q1 q2 q3
    simp (disch := omega) only [jR, etM, upI, et1, gI_sD, gD_sI, gI_eq, gI_ne, gD_eq, gD_ne, gI_bkY, gI_bkN, gD_bkY, gD_bkN, pfI_ne, idD]
  · intro q hq qn k hk
    simp (disch := omega) only [jR, etM, upI, et1, gI_sD, gD_sI, gI_eq, gI_ne, gD_eq, gD_ne, gI_bkY, gI_bkN, gD_bkY, gD_bkN, pfI_ne, idD]
  · intro q hq qn k
    simp (disch := omega) only [jR, etM, upI, et1, gI_sD, gD_sI, gI_eq, gI_ne, gD_eq, gD_ne, gI_bkY, gI_bkN, gD_bkY, gD_bkN, pfI_ne, idD]
  · simp (disch := omega) only [jR, etM, upI, et1, gI_sD, gD_sI, gI_eq, gI_ne, gD_eq, gD_ne, gI_bkY, gI_bkN, gD_bkY, gD_bkN, pfI_ne, idD]
  · simp (disch := omega) only [jR, etM, upI, et1, gI_sD, gD_sI, gI_eq, gI_ne, gD_eq, gD_ne, gI_bkY, gI_bkN, gD_bkY, gD_bkN, pfI_ne, idD]
  · intro j hj
    simp (disch := omega) only [enA, enR, enT, rjN, tfN, eA, eA0, up_eq, up_ne, inc_eq, inc_ne, shN_lo]
  · intro h' hh' hn k hk
    simp (disch := omega) only [enA, enR, enT, rjN, tfN, eA, eA0, up_eq, up_ne, inc_eq, inc_ne, shN_lo]
  · intro q hq qn k hk
    simp (disch := omega) only [enA, enR, enT, rjN, tfN, eA, eA0, up_eq, up_ne, inc_eq, inc_ne, shN_lo]
  · intro j hj
    simp (disch := omega) only [enD, eD0, up_ne]
  · intro h' hh' hn k hk
    simp (disch := omega) only [enD, eD0, up_ne]
  · intro q hq qn
    simp (disch := omega) only [enD, eD0, up_ne]
  · intro q hq qn
    simp (disch := omega) only [jR, etM, upI, et1, gI_sD, gD_sI, gI_eq, gI_ne, gD_eq, gD_ne, gI_bkY, gI_bkN, gD_bkY, gD_bkN, pfI_ne, idD]
    exact (pc q hq).2.2.2.2.1
  · refine ⟨?_, ?_, ?_, ?_, ?_, ?_, ?_, ?_⟩ <;> simp (disch := omega) only [jR, etM, upI, et1, gI_sD, gD_sI, gI_eq, gI_ne, gD_eq, gD_ne, gI_bkY, gI_bkN, gD_bkY, gD_bkN, pfI_ne, idD, enA, enR, enT, rjN, tfN, eA, eA0, up_eq, up_ne, inc_eq, inc_ne, shN_lo, x3, x4, x5, x6, x10, x11, x12, x13, nI_1]
    rfl
  · intro _
    refine ⟨?_, ?_, fun q => absurd q ?_⟩
    · simp (disch := omega) only [jR, etM, upI, et1, gI_sD, gD_sI, gI_eq, gI_ne, gD_eq, gD_ne, gI_bkY, gI_bkN, gD_bkY, gD_bkN, pfI_ne, idD, enD, up_eq]
    · simp (disch := omega) only [jR, etM, upI, et1, gI_sD, gD_sI, gI_eq, gI_ne, gD_eq, gD_ne, gI_bkY, gI_bkN, gD_bkY, gD_bkN, pfI_ne, idD, enD, eD0, up_ne, y2]
    · simp (disch := omega) only [enA, enR, enT, rjN, tfN, eA, eA0, up_eq, up_ne, inc_eq, inc_ne, shN_lo]
      exact fun z => z rfl
  · refine ⟨?_, ?_, ?_, ?_, ?_, ?_, ?_, ?_, ?_, fun _ => ?_⟩
    · simp (disch := omega) only [jR, etM, upI, et1, gI_sD, gD_sI, gI_eq, gI_ne, gD_eq, gD_ne, gI_bkY, gI_bkN, gD_bkY, gD_bkN, pfI_ne, idD, enA, enR, enT, rjN, tfN, eA, eA0, up_eq, up_ne, inc_eq, inc_ne, shN_lo, x0, z1, z2, z3, z4, z6, z7, z8, z10, nI_1]
    · simp (disch := omega) only [jR, etM, upI, et1, gI_sD, gD_sI, gI_eq, gI_ne, gD_eq, gD_ne, gI_bkY, gI_bkN, gD_bkY, gD_bkN, pfI_ne, idD, enA, enR, enT, rjN, tfN, eA, eA0, up_eq, up_ne, inc_eq, inc_ne, shN_lo, x0, z1, z2, z3, z4, z6, z7, z8, z10, nI_1]
    · simp (disch := omega) only [jR, etM, upI, et1, gI_sD, gD_sI, gI_eq, gI_ne, gD_eq, gD_ne, gI_bkY, gI_bkN, gD_bkY, gD_bkN, pfI_ne, idD, enA, enR, enT, rjN, tfN, eA, eA0, up_eq, up_ne, inc_eq, inc_ne, shN_lo, x0, z1, z2, z3, z4, z6, z7, z8, z10, nI_1]
    · simp (disch := omega) only [jR, etM, upI, et1, gI_sD, gD_sI, gI_eq, gI_ne, gD_eq, gD_ne, gI_bkY, gI_bkN, gD_bkY, gD_bkN, pfI_ne, idD, enA, enR, enT, rjN, tfN, eA, eA0, up_eq, up_ne, inc_eq, inc_ne, shN_lo, x0, z1, z2, z3, z4, z6, z7, z8, z10, nI_1]
      rfl
    · simp (disch := omega) only [jR, etM, upI, et1, gI_sD, gD_sI, gI_eq, gI_ne, gD_eq, gD_ne, gI_bkY, gI_bkN, gD_bkY, gD_bkN, pfI_ne, idD, enA, enR, enT, rjN, tfN, eA, eA0, up_eq, up_ne, inc_eq, inc_ne, shN_lo, x0, z1, z2, z3, z4, z6, z7, z8, z10, nI_1]
      rfl
    · simp (disch := omega) only [jR, etM, upI, et1, gI_sD, gD_sI, gI_eq, gI_ne, gD_eq, gD_ne, gI_bkY, gI_bkN, gD_bkY, gD_bkN, pfI_ne, idD, enA, enR, enT, rjN, tfN, eA, eA0, up_eq, up_ne, inc_eq, inc_ne, shN_lo, x0, z1, z2, z3, z4, z6, z7, z8, z10, nI_1]
    · simp (disch := omega) only [jR, etM, upI, et1, gI_sD, gD_sI, gI_eq, gI_ne, gD_eq, gD_ne, gI_bkY, gI_bkN, gD_bkY, gD_bkN, pfI_ne, idD, enA, enR, enT, rjN, tfN, eA, eA0, up_eq, up_ne, inc_eq, inc_ne, shN_lo, x0, z1, z2, z3, z4, z6, z7, z8, z10, nI_1]
    · simp (disch := omega) only [jR, etM, upI, et1, gI_sD, gD_sI, gI_eq, gI_ne, gD_eq, gD_ne, gI_bkY, gI_bkN, gD_bkY, gD_bkN, pfI_ne, idD, enA, enR, enT, rjN, tfN, eA, eA0, up_eq, up_ne, inc_eq, inc_ne, shN_lo, x0, z1, z2, z3, z4, z6, z7, z8, z10, nI_1]
      exact (hp_s h).symm
    · simp (disch := omega) only [jR, etM, upI, et1, gI_sD, gD_sI, gI_eq, gI_ne, gD_eq, gD_ne, gI_bkY, gI_bkN, gD_bkY, gD_bkN, pfI_ne, idD, enA, enR, enT, rjN, tfN, eA, eA0, up_eq, up_ne, inc_eq, inc_ne, shN_lo, x0, z1, z2, z3, z4, z6, z7, z8, z10, nI_1]
      exact (cp_s he).symm
    · simp (disch := omega) only [jR, etM, upI, et1, gI_sD, gD_sI, gI_eq, gI_ne, gD_eq, gD_ne, gI_bkY, gI_bkN, gD_bkY, gD_bkN, pfI_ne, idD, enD, eD0, up_ne, up_eq]

theorem cr_ret (cr : CR M c N D P) (hh : h < N 0) (hp : p < N 2) (h0 : N 0 ≤ 8) (h2 : N 2 ≤ 60) (t8 : ∀ h, h < N 0 → N (12 + 10 * h + 3) ≠ 0 → N (12 + 10 * h + 8) - 1 < 10) (st : N (92 + 8 * p + 3) = 1) (h11 : N 11 < 60) (hst : ∀ q, q < N 2 → N (92 + 8 * q + 3) ≤ 3) : CR (sD (jT (etM M (c + 5 + h) (c + 14 + p) (vl N D h p t)) c (c + 5 + h) (c + 14 + p)) (c + 5 + h) 1 (gnE (D (3 + 12 * h)) (N (12 + 10 * h + 0)))) c (enT N h p) (enD N D h p t) (fun q => if q = p then 0 else P q + 1) := by
  obtain ⟨S, ⟨s1, s2, s3, s4, s5⟩, cq, ch, cd, pc, pa⟩ := id cr
  obtain ⟨x3, x4, x5, x6, x10, x11, x12, x13⟩ := ch h (by omega)
  obtain ⟨y1, y2, y3⟩ := cd h hh
  obtain ⟨z1, z2, z3, z4, z5, z6, z7, z8, z10, z9⟩ := pc p hp
  have x0 := (S.2.2.1 h (by omega)).2
  have w0 := (S.2.2.2.1 p (by omega)).2
  refine cr_upd cr h p h0 h2 t8 ?_ ?_ rfl ?_ ?_ ?_ ?_ ?_ ?_ ?_ ?_ ?_ ?_ ?_ ?_ ?_ ?_ hp
  · intro r k q1 q2 q3
    simp (disch := omega) only [jT, pfM, etM, upI, et1, gI_sD, gD_sI, gI_eq, gI_ne, gD_eq, gD_ne, gI_bkY, gI_bkN, gD_bkY, gD_bkN, pfI_ne, idD]
  · intro r k q1 q2 q3
    simp (disch := omega) only [jT, pfM, etM, upI, et1, gI_sD, gD_sI, gI_eq, gI_ne, gD_eq, gD_ne, gI_bkY, gI_bkN, gD_bkY, gD_bkN, pfI_ne, idD]
  · intro q hq qn k hk
    simp (disch := omega) only [jT, pfM, etM, upI, et1, gI_sD, gD_sI, gI_eq, gI_ne, gD_eq, gD_ne, gI_bkY, gI_bkN, gD_bkY, gD_bkN, pfI_ne, idD]
  · intro q hq qn k
    simp (disch := omega) only [jT, pfM, etM, upI, et1, gI_sD, gD_sI, gI_eq, gI_ne, gD_eq, gD_ne, gI_bkY, gI_bkN, gD_bkY, gD_bkN, pfI_ne, idD]
  · simp (disch := omega) only [jT, pfM, etM, upI, et1, gI_sD, gD_sI, gI_eq, gI_ne, gD_eq, gD_ne, gI_bkY, gI_bkN, gD_bkY, gD_bkN, pfI_ne, idD]
  · simp (disch := omega) only [jT, pfM, etM, upI, et1, gI_sD, gD_sI, gI_eq, gI_ne, gD_eq, gD_ne, gI_bkY, gI_bkN, gD_bkY, gD_bkN, pfI_ne, idD]
  · intro j hj
    simp (disch := omega) only [enA, enR, enT, rjN, tfN, eA, eA0, up_eq, up_ne, inc_eq, inc_ne, shN_lo]
  · intro h' hh' hn k hk
    simp (disch := omega) only [enA, enR, enT, rjN, tfN, eA, eA0, up_eq, up_ne, inc_eq, inc_ne, shN_lo]
  · intro q hq qn k hk
    simp (disch := omega) only [enA, enR, enT, rjN, tfN, eA, eA0, up_eq, up_ne, inc_eq, inc_ne, shN_lo]
  · intro j hj
    simp (disch := omega) only [enD, eD0, up_ne]
  · intro h' hh' hn k hk
    simp (disch := omega) only [enD, eD0, up_ne]
  · intro q hq qn
    simp (disch := omega) only [enD, eD0, up_ne]
  · intro q hq qn
    have q1 := pc q hq
    simp (disch := omega) only [jT, pfM, gI_sD, gI_ne, gI_bkY]
    refine (pf_place (s := N (92 + 8 * q + 3)) (y := P q) ?_ ?_ (Nat.lt_of_le_of_lt (hst q hq) (by decide))).trans ?_
    · simp (disch := omega) only [etM, upI, et1, gI_sD, gI_ne]; exact q1.2.2.2.1
    · simp (disch := omega) only [etM, upI, et1, gI_sD, gI_ne]; exact q1.2.2.2.2.1
    · rw [if_neg qn]
  · refine ⟨?_, ?_, ?_, ?_, ?_, ?_, ?_, ?_⟩ <;> simp (disch := omega) only [jT, pfM, etM, upI, et1, gI_sD, gD_sI, gI_eq, gI_ne, gD_eq, gD_ne, gI_bkY, gI_bkN, gD_bkY, gD_bkN, pfI_ne, idD, enA, enR, enT, rjN, tfN, eA, eA0, up_eq, up_ne, inc_eq, inc_ne, shN_lo, x3, x4, x5, x6, x10, x11, x12, x13, nI_1]
    rfl
  · intro _
    refine ⟨?_, ?_, fun q => absurd q ?_⟩
    · simp (disch := omega) only [jT, pfM, etM, upI, et1, gI_sD, gD_sI, gI_eq, gI_ne, gD_eq, gD_ne, gI_bkY, gI_bkN, gD_bkY, gD_bkN, pfI_ne, idD, enD, up_eq]
    · simp (disch := omega) only [jT, pfM, etM, upI, et1, gI_sD, gD_sI, gI_eq, gI_ne, gD_eq, gD_ne, gI_bkY, gI_bkN, gD_bkY, gD_bkN, pfI_ne, idD, enD, eD0, up_ne, y2]
    · simp (disch := omega) only [enA, enR, enT, rjN, tfN, eA, eA0, up_eq, up_ne, inc_eq, inc_ne, shN_lo]
      exact fun z => z rfl
  · refine ⟨?_, ?_, ?_, ?_, ?_, ?_, ?_, ?_, ?_, fun _ => ?_⟩
    · simp (disch := omega) only [jT, pfM, etM, upI, et1, gI_sD, gD_sI, gI_eq, gI_ne, gD_eq, gD_ne, gI_bkY, gI_bkN, gD_bkY, gD_bkN, pfI_ne, idD, enA, enR, enT, rjN, tfN, eA, eA0, up_eq, up_ne, inc_eq, inc_ne, shN_lo, x0, z1, z2, z3, z4, z6, z7, z8, z10, nI_1]
    · simp (disch := omega) only [jT, pfM, etM, upI, et1, gI_sD, gD_sI, gI_eq, gI_ne, gD_eq, gD_ne, gI_bkY, gI_bkN, gD_bkY, gD_bkN, pfI_ne, idD, enA, enR, enT, rjN, tfN, eA, eA0, up_eq, up_ne, inc_eq, inc_ne, shN_lo, x0, z1, z2, z3, z4, z6, z7, z8, z10, nI_1]
    · simp (disch := omega) only [jT, pfM, etM, upI, et1, gI_sD, gD_sI, gI_eq, gI_ne, gD_eq, gD_ne, gI_bkY, gI_bkN, gD_bkY, gD_bkN, pfI_ne, idD, enA, enR, enT, rjN, tfN, eA, eA0, up_eq, up_ne, inc_eq, inc_ne, shN_lo, x0, z1, z2, z3, z4, z6, z7, z8, z10, nI_1]
    · simp (disch := omega) only [jT, pfM, etM, upI, et1, gI_sD, gD_sI, gI_eq, gI_ne, gD_eq, gD_ne, gI_bkY, gI_bkN, gD_bkY, gD_bkN, pfI_ne, idD, enA, enR, enT, rjN, tfN, eA, eA0, up_eq, up_ne, inc_eq, inc_ne, shN_lo, x0, z1, z2, z3, z4, z6, z7, z8, z10, nI_1]
      rfl
    · simp (disch := omega) only [jT, pfM, etM, upI, et1, gI_sD, gD_sI, gI_eq, gI_ne, gD_eq, gD_ne, gI_bkY, gI_bkN, gD_bkY, gD_bkN, pfI_ne, idD, enA, enR, enT, rjN, tfN, eA, eA0, up_eq, up_ne, inc_eq, inc_ne, shN_lo, x0, z1, z2, z3, z4, z6, z7, z8, z10, nI_1]
      rfl
    · simp (disch := omega) only [jT, pfM, etM, upI, et1, gI_sD, gD_sI, gI_eq, gI_ne, gD_eq, gD_ne, gI_bkY, gI_bkN, gD_bkY, gD_bkN, pfI_ne, idD, enA, enR, enT, rjN, tfN, eA, eA0, up_eq, up_ne, inc_eq, inc_ne, shN_lo, x0, z1, z2, z3, z4, z6, z7, z8, z10, nI_1]
    · simp (disch := omega) only [jT, pfM, etM, upI, et1, gI_sD, gD_sI, gI_eq, gI_ne, gD_eq, gD_ne, gI_bkY, gI_bkN, gD_bkY, gD_bkN, pfI_ne, idD, enA, enR, enT, rjN, tfN, eA, eA0, up_eq, up_ne, inc_eq, inc_ne, shN_lo, x0, z1, z2, z3, z4, z6, z7, z8, z10, nI_1]
    · simp (disch := omega) only [jT, pfM, etM, upI, et1, gI_sD, gD_sI, gI_eq, gI_ne, gD_eq, gD_ne, gI_bkY, gI_bkN, gD_bkY, gD_bkN, pfI_ne, idD, enA, enR, enT, rjN, tfN, eA, eA0, up_eq, up_ne, inc_eq, inc_ne, shN_lo, x0, z1, z2, z3, z4, z6, z7, z8, z10, nI_1]
      exact (hp_s h).symm
    · simp (disch := omega) only [jT, pfM, etM, upI, et1, gI_sD, gD_sI, gI_eq, gI_ne, gD_eq, gD_ne, gI_bkY, gI_bkN, gD_bkY, gD_bkN, pfI_ne, idD, enA, enR, enT, rjN, tfN, eA, eA0, up_eq, up_ne, inc_eq, inc_ne, shN_lo, x0, z1, z2, z3, z4, z6, z7, z8, z10, nI_1]
    · simp (disch := omega) only [jT, pfM, etM, upI, et1, gI_sD, gD_sI, gI_eq, gI_ne, gD_eq, gD_ne, gI_bkY, gI_bkN, gD_bkY, gD_bkN, pfI_ne, idD, enD, eD0, up_ne, up_eq]

