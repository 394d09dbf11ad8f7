/-! THE PURE PART, 12: the class ends a test, takes a part, lets pressures leak, steps -/
variable {zz : Nat}
variable {M M' : Mem} {c h p t : Nat} {N N' P P' : Nat → Nat} {D D' : Nat → UInt64}
def enP (N : Nat → Nat) (D : Nat → UInt64) (h p t : Nat) (P : Nat → Nat) : Nat → Nat := if eJ N D h p t = 0 then P else if eJ N D h p t < 10 ∨ N (92 + 8 * p + 5) = 2 then P else fun q => if q = p then 0 else P q + 1
theorem c_endTest0 {K : Int32 → Mem → Prop} (cr : CR M c N D P) (hh : h < 8) (h3 : N (12 + 10 * h + 3) = 0) (H : K 0 M) : w_X0_endTest (448 + zz) M c (c + 5 + h) K := by
  obtain ⟨S, ⟨s1, s2, s3, s4, s5⟩, cq, ch, cd, pc, pa⟩ := id cr
  obtain ⟨x3, x4, x5, x6, -⟩ := ch h hh
  refine ⟨kch (zz := zz) S.1 h hh, kc0 (zz := zz) S.1, ?_⟩
  rw [x6, h3]
  exact c_partN S s3 (Or.inl (by decide)) (cP rfl H)
theorem c_endTest1 {K : Int32 → Mem → Prop} (cr : CR M c N D P) (hh : h < N 0) (hp : p < N 2) (h2 : 2 ≤ N 0) (h0 : N 0 ≤ 8) (h60 : N 2 ≤ 60) (t8 : ∀ h, h < N 0 → N (12 + 10 * h + 3) ≠ 0 → N (12 + 10 * h + 8) - 1 < 10) (st : N (92 + 8 * p + 3) = 1) (h3 : N (12 + 10 * h + 3) = p + 1) (ht : N (12 + 10 * h + 8) = t + 1) (ht8 : t < 10) (ha : PZ (D (5 + 12 * h + 0))) (hb : PZ (D (5 + 12 * h + t))) (hv : N (92 + 8 * p + 2) ≤ 999) (m : Nat) (hg : GR m (D (3 + 12 * h))) (hm : m ≤ 20480) (hf : FR (D (4 + 12 * h))) (hw : N (12 + 10 * h + 0) ≤ 1000) (b1 : N (12 + 10 * h + 2) < 2 ^ 30) (b2 : N 3 < 2 ^ 30) (b5 : N (92 + 8 * p + 5) ≤ 2) (h11 : N 11 < 60) (hst : ∀ q, q < N 2 → N (92 + 8 * q + 3) ≤ 3) (H : ∀ M', CR M' c (enN N D h p t) (enD N D h p t) (enP N D h p t P) → OnC c M M' → K 1 M') : w_X0_endTest (448 + zz) M c (c + 5 + h) K := by
  obtain ⟨S, ⟨s1, s2, s3, s4, s5⟩, cq, ch, cd, pc, pa⟩ := id cr
  obtain ⟨x3, x4, x5, x6, x10, x11, x12, x13⟩ := ch h (by omega)
  obtain ⟨y1, y2, y3⟩ := cd h hh
  obtain ⟨y7, y8, y9⟩ := y3 (by omega)
  obtain ⟨z1, z2, z3, z4, z5, z6, z7, z8, z10, z9⟩ := pc p hp
  rw [ht, Nat.add_sub_cancel] at y8
  have C := S.1
  have hh8 : h < 8 := by omega
  have hp60 : p < 60 := by omega
  obtain ⟨f1, f2, f3, f4, f5⟩ := val_ok (n := N 0 - 1) ha hb hv (by omega) (by omega) hg hf
  obtain ⟨g1, g2, g3, -⟩ := gain_ok hg hm hw
  refine ⟨kch (zz := zz) C h hh8, kc0 (zz := zz) C, ?_⟩
  rw [x6, h3, hp_s]
  refine c_partY S s3 h60 p hp (cN (by have := C.pos; omega) ⟨by rw [y7, y8]; exact f1, m_eq ?_⟩)
  rw [y7, y8]
  refine c_valueOf C h p hh8 hp60 _ _ _ z3 s2 (by omega) f2 f3 (by rw [y1]; exact f4) (by rw [y1, y2]; exact f5) ?_
  rw [y1, y2]
  refine ⟨kcp (zz := zz) C p hp60, m_eq (m_eq (m_eq (m_eq (m_eq (m_eq ?_)))))⟩
  have T : ∀ X, gI X (c + 5 + h) 3 = nI (N (12 + 10 * h + 0)) → gD X (c + 5 + h) 1 = D (3 + 12 * h) → K 1 (sD X (c + 5 + h) 1 (gnE (D (3 + 12 * h)) (N (12 + 10 * h + 0)))) → (vf_n64 (FP.ddiv (FP.i2d (gI X (c + 5 + h) 3)) (4696837146684686336 : UInt64)) ∧ (∀ z16, z16 = FP.ddiv (FP.i2d (gI X (c + 5 + h) 3)) (4696837146684686336 : UInt64) → (vf_n64 (FP.dsub FP.dconst1 z16) ∧ (∀ z17, z17 = FP.dsub FP.dconst1 z16 → (vf_n64 (FP.dmul (gD X (c + 5 + h) 1) z17) ∧ (∀ z18, z18 = FP.dmul (gD X (c + 5 + h) 1) z17 → (∀ M19, M19 = sD X (c + 5 + h) 1 z18 → K 1 M19))))))) := by
    intro X e3 e1 HK
    rw [e3, e1]
    exact ⟨g1, m_eq ⟨g2, m_eq ⟨g3, m_eq (m_eq HK)⟩⟩⟩
  obtain ⟨E, hE⟩ : ∃ E, E = etM M (c + 5 + h) (c + 14 + p) (vl N D h p t) := ⟨_, rfl⟩
  have SE : Sh E c := by
    rw [hE]
    refine S.to (fun x hx => ?_) (fun x hx => ?_) (fun _ _ _ _ => rfl) rfl <;> simp (disch := omega) only [etM, upI, et1, gI_sD, gI_ne]
  have a0 : ∀ j, j ≠ 12 + 10 * h + 2 → j ≠ 12 + 10 * h + 4 → j ≠ 4 → j ≠ 92 + 8 * p + 4 → j ≠ 92 + 8 * p + 6 → eA0 N h p j = N j := fun j h1 h2 h3 h4 h5 => by
    unfold eA0
    rw [up_ne h5, up_ne h4, inc_ne h3, inc_ne h2, inc_ne h1]
  have d0 : ∀ j, j < 99 → eD0 N D h p t j = D j := fun j hj => up_ne (by omega)
  have es : jv (gD E (c + 5 + h) 8) (gD E (c + 5 + h) 7) (N (12 + 10 * h + 2) + 1) (N 3) (gD E (c + 14 + p) 9) (gD E (c + 1 + 1) 3) (gD E (c + 1 + 2) 3) = eJ N D h p t := by
    unfold eJ
    rw [jd_jv, d0 _ (by omega), d0 _ (by omega), d0 _ (by omega), d0 _ (by omega), a0 3 (by omega) (by omega) (by omega) (by omega) (by omega), hE]
    have e2 : eA0 N h p (12 + 10 * h + 2) = N (12 + 10 * h + 2) + 1 := by
      unfold eA0
      rw [up_ne (by omega), up_ne (by omega), inc_ne (by omega), inc_ne (by omega), inc_eq]
    rw [e2]
    simp (disch := omega) only [etM, upI, et1, gD_sI, gD_ne, gD_eq, y8, y7]
    rw [(cq 1 (by decide)).2, (cq 2 (by decide)).2]
  have goal : w_X0_judge (448 + zz) E c (c + 14 + p) (c + 5 + h) (fun M15 => (vf_n64 (FP.ddiv (FP.i2d (gI M15 (c + 5 + h) 3)) (4696837146684686336 : UInt64)) ∧ (∀ z16, z16 = FP.ddiv (FP.i2d (gI M15 (c + 5 + h) 3)) (4696837146684686336 : UInt64) → (vf_n64 (FP.dsub FP.dconst1 z16) ∧ (∀ z17, z17 = FP.dsub FP.dconst1 z16 → (vf_n64 (FP.dmul (gD M15 (c + 5 + h) 1) z17) ∧ (∀ z18, z18 = FP.dmul (gD M15 (c + 5 + h) 1) z17 → (∀ M19, M19 = sD M15 (c + 5 + h) 1 z18 → K 1 M19)))))))) := by
    refine c_judge SE h p hh8 hp60 (N (12 + 10 * h + 2) + 1) (N 3) (N (92 + 8 * p + 5)) ?_ ?_ ?_ (by omega) (by omega) b5 ?_ (eJ N D h p t) es ?_ ?_ ?_
    · rw [hE]; simp (disch := omega) only [etM, upI, et1, gI_sD, gI_ne, gI_eq, x5, nI_1]
    · rw [hE]; simp (disch := omega) only [etM, upI, et1, gI_sD, gI_ne, gI_eq, s1]
    · rw [hE]; simp (disch := omega) only [etM, upI, et1, gI_sD, gI_ne, gI_eq, z7]
    · rw [hE]; simp (disch := omega) only [etM, upI, et1, gD_sI, gD_ne, y7]; exact half_ok ha
    · intro e
      rw [hE]
      refine T _ ?_ ?_ (H _ ?_ ?_)
      · simp (disch := omega) only [jA, etM, upI, et1, gI_sD, gI_ne, x3]
      · simp (disch := omega) only [jA, etM, upI, et1, gD_sI, gD_ne, y1]
      · unfold enN enP
        rw [if_pos e, if_pos e]
        exact cr_acc cr hh hp h0 h60 t8 st
      · refine ⟨fun r k q => ?_, fun r k q => ?_, fun _ _ _ => rfl, rfl⟩ <;> simp (disch := omega) only [jA, etM, upI, et1, gI_sD, gI_ne, gD_sI, gD_ne]
    · intro e1 e2
      rw [hE]
      have ec : eJ N D h p t % 10 ≠ 0 ∧ eJ N D h p t % 10 ≤ 5 := by
        have hs := jd_le (eA0 N h p) (eD0 N D h p t) h t (vl N D h p t)
        change eJ N D h p t = 0 ∨ eJ N D h p t = 1 ∨ eJ N D h p t = 2 ∨ eJ N D h p t = 13 ∨ eJ N D h p t = 14 at hs
        omega
      refine T _ ?_ ?_ (H _ ?_ ?_)
      · simp (disch := omega) only [jR, etM, upI, et1, gI_sD, gI_ne, x3]
      · simp (disch := omega) only [jR, etM, upI, et1, gD_sI, gD_ne, y1]
      · unfold enN enP
        rw [if_neg e1, if_neg e1, if_pos e2, if_pos e2]
        exact cr_rej cr hh hp h0 h60 t8 st _ ec.1 ec.2
      · refine ⟨fun r k q => ?_, fun r k q => ?_, fun _ _ _ => rfl, rfl⟩ <;> simp (disch := omega) only [jR, etM, upI, et1, gI_sD, gI_ne, gD_sI, gD_ne]
    · intro e1 e2
      rw [hE]
      refine T _ ?_ ?_ (H _ ?_ ?_)
      · simp (disch := omega) only [jT, pfM, etM, upI, et1, gI_sD, gI_ne, gI_bkN, x3]
      · simp (disch := omega) only [jT, pfM, etM, upI, et1, gD_sI, gD_ne, gD_bkN, y1]
      · unfold enN enP
        rw [if_neg e1, if_neg e1, if_neg e2, if_neg e2]
        exact cr_ret cr hh hp h0 h60 t8 st h11 hst
      · refine ⟨fun r k q => ?_, fun r k q => ?_, fun _ _ _ => rfl, rfl⟩ <;> simp (disch := omega) only [jT, pfM, etM, upI, et1, gI_sD, gI_ne, gI_bkN, gD_sI, gD_ne, gD_bkN]
  rw [hE] at goal
  exact goal

