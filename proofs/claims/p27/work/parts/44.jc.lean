/-! THE PURE PART, 22: acts on settings -/
variable {M M' : Mem} {b b' c h k tl : Nat} {s s' z : S3} {Hs : Nat → S3} {f : Bool} {q tx : Nat → Nat} {N N' P : Nat → Nat} {D D' : Nat → UInt64}
theorem CI.act (I : CI M b s Hs k z f q tl tx) (o : OnC 2 M M') (c' : CRs M' 2 s') (w' : WFs s' b') (bb : b ≤ b') : CI M' b' s' Hs k z f q tl tx := by
  obtain ⟨⟨i1, i2, i3, i4, i5⟩, sh, ⟨q1, q2⟩, ⟨c1, c2⟩, ⟨h1, h2, h3⟩, ⟨f1, f2⟩, ⟨t1, t2, t3⟩⟩ := I
  have cf : ∀ c, Car c → c ≠ 2 → ∀ r, c ≤ r → r < c + 74 → Same M M' r := fun c C e r g1 g2 => o.same (by have := Car.ap C car2 e; unfold Apart at this; omega)
  have e0 : ∀ r, (r < 2 ∨ 76 ≤ r) → Same M M' r := fun r hr => o.same (by omega)
  refine ⟨?_, fun c C => ?_, ⟨fun i hi => ?_, q2⟩, ⟨c', w'⟩, ⟨h1, ?_, fun i hi => ?_⟩, ⟨?_, fun e => ?_⟩, ⟨t1, ?_, fun j hj => ?_⟩⟩
  · rw [o.gR, o.gR, o.gR, o.gR, o.gR]; exact ⟨i1, i2, i3, i4, i5⟩
  · by_cases e : c = 2
    · rw [e]; exact c'.1
    · exact sh_frame (cf c C e) (sh c C)
  · rw [o.gR]; exact q1 i hi
  · rw [(e0 1 (by decide) 4).1]; exact h2
  · obtain ⟨a, w⟩ := h3 i hi
    obtain ⟨x1, x2, x3, x4⟩ := q1 i (by omega)
    exact ⟨CRs.fr (cf _ x2 x3) w a, w.mono bb⟩
  · rw [(e0 1 (by decide) 5).1]; exact f1
  · obtain ⟨a, w⟩ := f2 e
    exact ⟨CRs.fr (cf 373 car373 (by decide)) w a, w.mono bb⟩
  · rw [(e0 447 (by decide) 1).1]; exact t2
  · rw [(e0 448 (by decide) j).1]; exact t3 j hj
theorem CI.mono (I : CI M b s Hs k z f q tl tx) (bb : b ≤ b') : CI M b' s Hs k z f q tl tx := I.act (OnC.rf 2 M) I.2.2.2.1.1 (I.2.2.2.1.2.mono bb) bb
theorem rng {x lo hi : Int32} (a b : Nat) (ha : lo = nI a) (hb : hi = nI b) (a1 : a < 2 ^ 31) (b1 : b < 2 ^ 31) (h1 : ¬ x < lo) (h2 : ¬ hi < x) : ∃ j, a ≤ j ∧ j ≤ b ∧ x = nI j := by
  subst ha hb
  have t1 := nI_toInt a1
  have t2 := nI_toInt b1
  rw [Int32.lt_iff_toInt_lt] at h1 h2
  refine ⟨x.toInt.toNat, by omega, by omega, ?_⟩
  apply Int32.toInt.inj
  rw [nI_toInt (by omega)]
  omega
theorem not_lt_le {x y : Int32} (h : x ≤ y) : ¬ y < x := fun g => by
  rw [Int32.le_iff_toInt_le] at h
  rw [Int32.lt_iff_toInt_lt] at g
  omega
theorem not_le_lt {x y : Int32} (h : ¬ x ≤ y) : y < x := by
  rw [Int32.le_iff_toInt_le] at h
  rw [Int32.lt_iff_toInt_lt]
  omega
/-- only numbers of the carousel's own row change -/
theorem cr_cs (cr : CR M c N D P) (m : ∀ r k, r ≠ c → gI M' r k = gI M r k) (d : M'.2 = M.2) (cs : CS M' c N') (n : ∀ x, x = 0 ∨ x = 2 ∨ 12 ≤ x → N' x = N x) : CR M' c N' D P := by
  obtain ⟨S, s, cq, ch, cd, pc, pa⟩ := cr
  have gd : ∀ r k, gD M' r k = gD M r k := fun r k => congrFun (congrFun (congrArg Prod.fst d) r) k
  have gl : ∀ r k, gL M' r k = gL M r k := fun r k => congrFun (congrFun (congrArg (fun x => x.2.1) d) r) k
  refine ⟨S.to (fun h hh => m _ _ (by omega)) (fun p hp => m _ _ (by omega)) (fun i k _ _ => gl _ _) (congrArg (fun x => x.2.2) d), cs, fun i hi => ?_, fun h hh => ?_, fun h hh => ?_, fun p hp => ?_, fun p h1 h2 => ?_⟩
  · rw [gl, gd]; exact cq i hi
  · have x := ch h hh
    unfold HI at x ⊢
    rw [m _ _ (by omega), m _ _ (by omega), m _ _ (by omega), m _ _ (by omega), m _ _ (by omega), m _ _ (by omega), m _ _ (by omega), m _ _ (by omega), n _ (by omega), n _ (by omega), n _ (by omega), n _ (by omega), n _ (by omega), n _ (by omega), n _ (by omega), n _ (by omega)]
    exact x
  · rw [n 0 (by omega)] at hh
    have x := cd h hh
    unfold HD at x ⊢
    rw [m _ _ (by omega), gd, gd, gd, gd, n _ (by omega), n _ (by omega)]
    exact x
  · rw [n 2 (by omega)] at hp
    have x := pc p hp
    unfold PC at x ⊢
    rw [m _ _ (by omega), m _ _ (by omega), m _ _ (by omega), m _ _ (by omega), m _ _ (by omega), m _ _ (by omega), m _ _ (by omega), m _ _ (by omega), m _ _ (by omega), gd, n _ (by omega), n _ (by omega), n _ (by omega), n _ (by omega), n _ (by omega), n _ (by omega), n _ (by omega), n _ (by omega)]
    exact x
  · rw [n 2 (by omega)] at h1
    have x := pa p h1 h2
    unfold PA at x ⊢
    rw [m _ _ (by omega), m _ _ (by omega), m _ _ (by omega)]
    exact x
theorem wf_3 (w : WF N D P b) (j : Nat) (h1 : 1 ≤ j) (h2 : j ≤ 99) : WF (up N 3 j) D P b := by
  obtain ⟨⟨g0, g8, g1, g2, g31, g3, g4, g5⟩, r, wh, wo, wz, wd, wq, ⟨L0, L1, L2⟩, ⟨k0, k1, k2, k3, k4⟩⟩ := w
  obtain ⟨F, hF⟩ : ∃ F, F = up N 3 j := ⟨_, rfl⟩
  have n : ∀ x, x ≠ 3 → F x = N x := fun x hx => by rw [hF]; exact up_ne hx
  have n3 : F 3 = j := by rw [hF]; exact up_eq _ _ _
  rw [← hF]
  have dS : ∀ h, dst F h = dst N h := fun h => by unfold dst stA; rw [n 0 (by decide), n 1 (by decide)]
  refine ⟨⟨by rw [n 0 (by decide)]; exact g0, by rw [n 0 (by decide)]; exact g8, by rw [n 1 (by decide)]; exact g1, by rw [n 2 (by decide)]; exact g2, by omega, by omega, by rw [n 4 (by decide)]; exact g4, by rw [n 5 (by decide)]; exact g5⟩, r, fun h hh => ?_, fun h hh => ?_, fun h hh h8 k hk => ?_, fun h h' hh hh' => ?_, fun p hp => ?_, ⟨?_, fun k hk => ?_, fun p hp => ?_⟩, ?_⟩
  · rw [n 0 (by decide)] at hh
    unfold WH
    rw [n _ (by omega), n _ (by omega), n _ (by omega), n _ (by omega), n _ (by omega), n _ (by omega), n _ (by omega)]
    exact wh h hh
  · rw [n 0 (by decide)] at hh
    unfold WO
    rw [n (12 + 10 * h + 3) (by omega), n (12 + 10 * h + 8) (by omega), n 2 (by decide), n _ (by omega), n _ (by omega), n _ (by omega), dS]
    exact wo h hh
  · rw [n 0 (by decide)] at hh
    rw [n _ (by omega)]; exact wz h hh h8 k hk
  · rw [n 0 (by decide)] at hh hh'
    rw [n _ (by omega), n _ (by omega)]; exact wd h h' hh hh'
  · rw [n 2 (by decide)] at hp
    unfold WQ
    rw [n _ (by omega), n _ (by omega), n _ (by omega), n _ (by omega), n _ (by omega), n _ (by omega), n _ (by omega), n _ (by omega)]
    exact wq p hp
  · rw [n 11 (by decide)]; exact L0
  · rw [n 11 (by decide)] at hk
    rw [n _ (by omega), n 2 (by decide), n _ (by omega)]; exact L1 k hk
  · rw [n 2 (by decide)] at hp
    rw [n _ (by omega), n 11 (by decide), n _ (by omega)]; exact L2 p hp
  · unfold WC
    rw [cS_cnt, cS_cnt, n 0 (by decide), n 2 (by decide), n 11 (by decide), n 4 (by decide), n 5 (by decide), cH_same N F (N 0) (fun q _ => n _ (by omega))]
    rw [cS_cnt] at k0 k1
    refine ⟨?_, ?_, fun e h1 h2 => ?_, ?_, ?_⟩
    · rw [← k0]; exact cnt_same _ _ _ _ (fun q _ => n _ (by omega))
    · rw [← k1]; exact cnt_same _ _ _ _ (fun q _ => n _ (by omega))
    · rw [n (5 + e) (by omega), ← k2 e h1 h2]; exact cnt_same _ _ _ _ (fun q _ => n _ (by omega))
    · rw [← k3]; exact sm_same _ _ _ (fun q _ => n _ (by omega))
    · rw [← k4]; exact sm_same _ _ _ (fun q _ => n _ (by omega))
