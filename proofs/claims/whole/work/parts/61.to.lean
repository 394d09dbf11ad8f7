/-! THE PURE PART, 39: the reference's constructor; the invariant at the start -/
variable {M M' A : Mem} {b b' c h p k r0 ra i v : Nat}
def alM (M : Mem) (j r : Nat) : Mem := sR (zr M r) 449 j r
theorem al_I {j r a k : Nat} (e : a ≠ r) : gI (alM M j r) a k = gI M a k := gI_zr e
theorem al_D {j r a k : Nat} (e : a ≠ r) : gD (alM M j r) a k = gD M a k := gD_zr e
theorem al_L {j r a k : Nat} (e : a ≠ r) : gL (alM M j r) a k = gL M a k := gL_zr e
theorem al_R {j r a k : Nat} (e : a ≠ r) (e2 : a ≠ 449 ∨ k ≠ j) : gR (alM M j r) a k = gR M a k := (gR_ne e2).trans (gR_zr e)
theorem al_Rj {j r : Nat} : gR (alM M j r) 449 j = r := gR_eq
theorem al_I0 {j r k : Nat} : gI (alM M j r) r k = 0 := if_pos rfl
theorem al_D0 {j r k : Nat} : gD (alM M j r) r k = 0 := if_pos rfl
def Z6 (M : Mem) : Mem := alM (alM (alM (alM (alM (alM (alM (alM M 0 450) 1 451) 2 452) 3 453) 4 454) 5 455) 9 456) 12 457
theorem z_same (r : Nat) (hr : r ≤ 448) : Same M (Z6 M) r := by
  intro k
  unfold Z6
  refine ⟨?_, ?_, ?_, ?_⟩
  · simp (disch := omega) only [al_I]
  · simp (disch := omega) only [al_D]
  · simp (disch := omega) only [al_L]
  · simp (disch := omega) only [al_R]
theorem z_fx : FX6 (Z6 M) := by
  unfold FX6 Z6
  simp (disch := omega) only [al_R, al_Rj]
  exact ⟨trivial, trivial, trivial, trivial, trivial, trivial, trivial, trivial⟩
theorem z_I449 (k : Nat) : gI (Z6 M) 449 k = gI M 449 k := by
  unfold Z6
  simp (disch := omega) only [al_I]
theorem z_450 (k : Nat) : gI (Z6 M) 450 k = 0 := by
  unfold Z6
  simp (disch := omega) only [al_I, al_I0]
theorem z_456 (k : Nat) : gI (Z6 M) 456 k = 0 := by
  unfold Z6
  simp (disch := omega) only [al_I, al_I0]
theorem z_453 (k : Nat) : gD (Z6 M) 453 k = 0 := by
  unfold Z6
  simp (disch := omega) only [al_D, al_D0]
def Y6 (M : Mem) : Mem := sD (sD (sD (sI (Z6 M) 450 3 20) 453 0 4647503709213818880) 453 1 4626322717216342016) 453 2 4629137466983448576
theorem y_rf : Rf (Y6 M) N1 D1 := by
  refine ⟨z_fx (M := M), fun j hj => ?_, fun j hj => ?_⟩
  · show gI (sI (Z6 M) 450 3 20) 450 j = _
    unfold N1
    by_cases e : j = 3
    · rw [e, gI_eq]; rfl
    · rw [gI_ne (Or.inr e), z_450, if_neg e]; rfl
  · unfold Y6 D1
    by_cases e2 : j = 2
    · rw [e2, gD_eq]; rfl
    · rw [gD_ne (Or.inr e2)]
      by_cases e1 : j = 1
      · rw [e1, gD_eq]; rfl
      · rw [gD_ne (Or.inr e1)]
        by_cases e0 : j = 0
        · rw [e0, gD_eq]; rfl
        · rw [gD_ne (Or.inr e0), gD_sI, z_453, if_neg e0, if_neg e1, if_neg e2]; rfl
theorem y_same (r : Nat) (hr : r ≤ 448) : Same M (Y6 M) r := (z_same r hr).trans (fun k => ⟨gI_ne (Or.inl (by omega)), by
  unfold Y6
  rw [gD_ne (Or.inl (by omega)), gD_ne (Or.inl (by omega)), gD_ne (Or.inl (by omega)), gD_sI], rfl, rfl⟩)
theorem x6_k (n : Nat) (hn : n = 449) : (kd (n + 1) = (7, 632) ∧ Al rmX6_init n n) ∧ (kd (n + 1 + 1) = (7, 2528) ∧ Al rmX6_init n (n + 1)) ∧ (kd (n + 1 + 1 + 1) = (7, 632) ∧ Al rmX6_init n (n + 1 + 1)) ∧ (kd (n + 1 + 1 + 1 + 1) = (8, 159) ∧ Al rmX6_init n (n + 1 + 1 + 1)) ∧ (kd (n + 1 + 1 + 1 + 1 + 1) = (8, 636) ∧ Al rmX6_init n (n + 1 + 1 + 1 + 1)) ∧ (kd (n + 1 + 1 + 1 + 1 + 1 + 1) = (8, 159) ∧ Al rmX6_init n (n + 1 + 1 + 1 + 1 + 1)) ∧ (kd (n + 1 + 1 + 1 + 1 + 1 + 1 + 1) = (9, 60) ∧ Al rmX6_init n (n + 1 + 1 + 1 + 1 + 1 + 1)) ∧ (kd (n + 1 + 1 + 1 + 1 + 1 + 1 + 1 + 1) = (7, 42) ∧ Al rmX6_init n (n + 1 + 1 + 1 + 1 + 1 + 1 + 1)) ∧ ((n + 1 + 1 + 1 + 1 + 1 + 1 + 1 + 1) - n + 0 ≤ 8 ∧ SL (n + 1 + 1 + 1 + 1 + 1 + 1 + 1 + 1) - SL n + 0 ≤ 4848) ∧ SL (n + 8) ≤ SL n + 4848 := by
  subst hn
  unfold Al
  decide +kernel
theorem i_X6 {K : Mem → Prop} (n : Nat) (hn : n = 449) (A : Mem) (H : ∀ M', Q (Y6 A) M' (bgN N1 4) (bgD D1 4) → K M') : w_X6_init n A n K := by
  obtain ⟨a1, a2, a3, a4, a5, a6, a7, a8, a9, a10⟩ := x6_k n hn
  have kn : kd n = (6, 0) := by rw [hn]; decide

  refine ⟨by omega, ⟨a1, m_eq ⟨⟨by omega, kn⟩, m_eq (⟨a2, m_eq ⟨⟨by omega, kn⟩, m_eq (⟨a3, m_eq ⟨⟨by omega, kn⟩, m_eq (⟨a4, m_eq ⟨⟨by omega, kn⟩, m_eq (⟨a5, m_eq ⟨⟨by omega, kn⟩, m_eq (⟨a6, m_eq ⟨⟨by omega, kn⟩, m_eq (⟨a7, m_eq ⟨⟨by omega, kn⟩, m_eq (⟨a8, m_eq ⟨⟨by omega, kn⟩, m_eq ?_⟩⟩)⟩⟩)⟩⟩)⟩⟩)⟩⟩)⟩⟩)⟩⟩)⟩⟩⟩
  have key : (sR (zr (sR (zr (sR (zr (sR (zr (sR (zr (sR (zr (sR (zr (sR (zr A (n + 1)) n 0 (n + 1)) (n + 1 + 1)) n 1 (n + 1 + 1)) (n + 1 + 1 + 1)) n 2 (n + 1 + 1 + 1)) (n + 1 + 1 + 1 + 1)) n 3 (n + 1 + 1 + 1 + 1)) (n + 1 + 1 + 1 + 1 + 1)) n 4 (n + 1 + 1 + 1 + 1 + 1)) (n + 1 + 1 + 1 + 1 + 1 + 1)) n 5 (n + 1 + 1 + 1 + 1 + 1 + 1)) (n + 1 + 1 + 1 + 1 + 1 + 1 + 1)) n 9 (n + 1 + 1 + 1 + 1 + 1 + 1 + 1)) (n + 1 + 1 + 1 + 1 + 1 + 1 + 1 + 1)) n 12 (n + 1 + 1 + 1 + 1 + 1 + 1 + 1 + 1)) = Z6 A := by subst hn; rfl
  rw [key]
  have F := z_fx (M := A)
  have F0 : gR (Z6 A) n 0 = 450 := by rw [hn]; exact F.1
  have F3 : gR (Z6 A) n 3 = 453 := by rw [hn]; exact F.2.2.2.1
  refine m_rR F0 ⟨⟨by omega, by decide, vp_in_nI (n := 3) (by decide) (by decide)⟩, m_eq (m_rR F3 ⟨⟨by omega, by decide, vp_in_nI (n := 0) (by decide) (by decide)⟩, m_eq (m_rR F3 ⟨⟨by omega, by decide, vp_in_nI (n := 1) (by decide) (by decide)⟩, m_eq (m_rR F3 ⟨⟨by omega, by decide, vp_in_nI (n := 2) (by decide) (by decide)⟩, m_eq ⟨a9, ?_⟩⟩)⟩)⟩)⟩
  subst hn
  exact q_begin (A := Y6 A) (M := Y6 A) (N := N1) (D := D1) ⟨y_rf, On.rf _⟩ 4 (by decide) (fun M' q => ⟨rfl, a10, H M' q⟩)
theorem inv0 {M3 : Mem} (I : CI0 M) (q : Q (Y6 (zr M 449)) M3 (bgN N1 4) (bgD D1 4)) : INV M3 0 := by
  obtain ⟨r, o⟩ := q
  have g : ∀ k, gI M3 449 k = 0 := fun k => by
    rw [o.1 449 k (by decide)]
    show gI (sI (Z6 (zr M 449)) 450 3 20) 449 k = 0
    rw [gI_ne (Or.inl (by decide)), z_I449]
    exact gI_z0
  have g6 : ∀ k, gI M3 456 k = 0 := fun k => by
    rw [o.1 456 k (by decide)]
    show gI (sI (Z6 (zr M 449)) 450 3 20) 456 k = 0
    rw [gI_ne (Or.inl (by decide)), z_456]
  have R : RF M3 s0 (fun _ => s0) 0 s0 false 0 (fun _ => 0) := ⟨r, ⟨g 6, fun i hi => by omega⟩, ⟨g 7, fun e => by cases e⟩, ⟨g 8, fun j _ => g6 j⟩⟩
  refine inv_fin (I : CI M 0 s0 (fun _ => s0) 0 s0 false q0 0 (fun _ => 0)) R (fun r hr => ?_)
  exact (zr_same (by omega)).trans ((y_same r hr).trans (o.fr r hr))
