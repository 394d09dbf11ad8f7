/-! THE PURE PART, 23: acts on heads -/
variable {M M' A : Mem} {b b' c h k tl : Nat} {s s' z : S3} {Hs : Nat → S3} {f : Bool} {q tx : Nat → Nat} {N N' P : Nat → Nat} {D D' : Nat → UInt64}
theorem sub1_lt {x : Int32} {n : Nat} (hn : n < 2 ^ 30) (hx : nI n ≤ x) : nI n - 1 < x := by
  have t := pk_sub_toInt (a := n) (b := 1) hn (by decide)
  rw [Int32.le_iff_toInt_le, nI_toInt (by omega)] at hx
  rw [Int32.lt_iff_toInt_lt]
  have e : (nI n - 1).toInt = (n : Int) - 1 := t
  omega
theorem argc (x : Int32) {n : Nat} (hn : n < 2 ^ 31) : (x < 0 ∨ nI n ≤ x) ∨ ∃ j, j < n ∧ x = nI j := by
  rcases pk_ix x hn with e | e | e
  · exact Or.inl (Or.inl e)
  · exact Or.inl (Or.inr e)
  · exact Or.inr e
/-- one head changes, no part does -/
theorem cr_updh (cr : CR M c N D P) (h : Nat) (hh : h < N 0) (h0 : N 0 ≤ 8) (h2 : N 2 ≤ 60) (t8 : ∀ h, h < N 0 → N (12 + 10 * h + 3) ≠ 0 → N (12 + 10 * h + 8) - 1 < 10)
    (m1 : ∀ r k, r ≠ c + 5 + h → gI M' r k = gI M r k) (m2 : ∀ r k, r ≠ c + 5 + h → gD M' r k = gD M r k) (mL : M'.2.2 = M.2.2) (m4 : gI M' (c + 5 + h) 0 = gI M (c + 5 + h) 0)
    (n1 : ∀ j, j ≤ 3 → N' j = N j) (n2 : ∀ h', h' < 8 → h' ≠ h → ∀ k, k < 10 → N' (12 + 10 * h' + k) = N (12 + 10 * h' + k)) (n3 : ∀ x, 92 ≤ x → N' x = N x)
    (d1 : ∀ j, j < 3 → D' j = D j) (d2 : ∀ h', h' < 8 → h' ≠ h → ∀ k, k < 12 → D' (3 + 12 * h' + k) = D (3 + 12 * h' + k)) (d3 : ∀ q, q < 60 → D' (99 + q) = D (99 + q))
    (hH : HI M' c N' h) (hD : HD M' c N' D' h) : CR M' c N' D' P := by
  obtain ⟨S, ⟨s1, s2, s3, s4, s5⟩, cp, ch, cd, pc, pa⟩ := cr
  have gl : ∀ r k, gL M' r k = gL M r k := fun r k => congrFun (congrFun (congrArg Prod.fst mL) r) k
  refine ⟨S.to (fun h' hh => ?_) (fun p hp => m1 _ _ (by omega)) (fun i k _ _ => gl _ _) (congrArg Prod.snd mL), ?_, fun i hi => ?_, fun h' hh => ?_, fun h' hh => ?_, fun p hp => ?_, fun p p1 p2 => ?_⟩
  · by_cases e : h' = h
    · rw [e]; exact m4
    · exact m1 _ _ (by omega)
  · unfold CS
    rw [m1 c 5 (by omega), m1 c 6 (by omega), m1 c 7 (by omega), m1 c 8 (by omega), m1 c 9 (by omega), n1 0 (by decide), n1 1 (by decide), n1 2 (by decide), n1 3 (by decide)]
    exact ⟨s1, s2, s3, s4, s5⟩
  · rw [d1 i hi, m2 _ _ (by omega), gl]; exact cp i hi
  · by_cases e : h' = h
    · rw [e]; exact hH
    · exact hi_same h' (fun k => m1 _ _ (by omega)) (n2 h' hh e) (ch h' hh)
  · rw [n1 0 (by decide)] at hh
    by_cases e : h' = h
    · rw [e]; exact hD
    · exact hd_same h' (t8 h' hh) (fun k => m1 _ _ (by omega)) (fun k => m2 _ _ (by omega)) (n2 h' (by omega) e) (d2 h' (by omega) e) (cd h' hh)
  · rw [n1 2 (by decide)] at hp
    have x := pc p hp
    unfold PC at x ⊢
    rw [m1 _ _ (by omega), m1 _ _ (by omega), m1 _ _ (by omega), m1 _ _ (by omega), m1 _ _ (by omega), m1 _ _ (by omega), m1 _ _ (by omega), m1 _ _ (by omega), m1 _ _ (by omega), m2 _ _ (by omega), n3 _ (by omega), n3 _ (by omega), n3 _ (by omega), n3 _ (by omega), n3 _ (by omega), n3 _ (by omega), n3 _ (by omega), n3 _ (by omega), d3 p (by omega)]
    exact x
  · rw [n1 2 (by decide)] at p1
    have x := pa p p1 p2
    unfold PA at x ⊢
    rw [m1 _ _ (by omega), m1 _ _ (by omega), m1 _ _ (by omega)]
    exact x
theorem wf_updh (w : WF N D P b) (hh : h < N 0) (n1 : ∀ j, j ≤ 11 → N' j = N j) (n2 : ∀ h', h' < 8 → h' ≠ h → ∀ k, k < 10 → N' (12 + 10 * h' + k) = N (12 + 10 * h' + k)) (n3 : ∀ x, 92 ≤ x → N' x = N x)
    (d1 : ∀ j, j < 3 → D' j = D j) (d2 : ∀ h', h' < 8 → h' ≠ h → ∀ k, k < 12 → D' (3 + 12 * h' + k) = D (3 + 12 * h' + k)) (d3 : ∀ k, k < 10 → D' (5 + 12 * h + k) = D (5 + 12 * h + k))
    (hH : WH N' D' b h) (e3 : N' (12 + 10 * h + 3) = N (12 + 10 * h + 3)) (e4 : N' (12 + 10 * h + 4) = N (12 + 10 * h + 4)) (e7 : N' (12 + 10 * h + 7) = N (12 + 10 * h + 7)) (e8 : N' (12 + 10 * h + 8) = N (12 + 10 * h + 8)) : WF N' D' P b := by
  obtain ⟨⟨g0, g8, g1, g2, g31, g3, g4, g5⟩, ⟨r1, r2, r3, r4⟩, wh, wo, wz, wd, wq, ⟨L0, L1, L2⟩, ⟨k0, k1, k2, k3, k4⟩⟩ := w
  have z0 := n1 0 (by decide)
  have z2 := n1 2 (by decide)
  have dS : ∀ h, dst N' h = dst N h := fun h => by unfold dst stA; rw [z0, n1 1 (by decide)]
  have a3 : ∀ h', h' < 8 → N' (12 + 10 * h' + 3) = N (12 + 10 * h' + 3) := fun h' hh => by
    by_cases e : h' = h
    · rw [e]; exact e3
    · exact n2 h' hh e 3 (by decide)
  have a8 : ∀ h', h' < 8 → N' (12 + 10 * h' + 8) = N (12 + 10 * h' + 8) := fun h' hh => by
    by_cases e : h' = h
    · rw [e]; exact e8
    · exact n2 h' hh e 8 (by decide)
  have aD : ∀ h' k, h' < 8 → k < 10 → D' (5 + 12 * h' + k) = D (5 + 12 * h' + k) := fun h' k hh hk => by
    by_cases e : h' = h
    · rw [e]; exact d3 k hk
    · have := d2 h' hh e (2 + k) (by omega)
      rw [show 3 + 12 * h' + (2 + k) = 5 + 12 * h' + k by omega] at this
      exact this
  refine ⟨⟨by omega, by omega, by rw [n1 1 (by decide)]; exact g1, by omega, by rw [n1 3 (by decide)]; exact g31, by rw [n1 3 (by decide)]; exact g3, by rw [n1 4 (by decide)]; exact g4, by rw [n1 5 (by decide)]; exact g5⟩, ⟨by rw [d1 0 (by decide)]; exact r1, by rw [d1 0 (by decide)]; exact r2, by rw [d1 1 (by decide)]; exact r3, by rw [d1 2 (by decide)]; exact r4⟩, fun h' hh' => ?_, fun h' hh' => ?_, fun h' q1 q2 k hk => ?_, fun h1 h2 q1 q2 => ?_, fun p hp => ?_, ⟨?_, fun k hk => ?_, fun p hp => ?_⟩, ?_⟩
  · rw [z0] at hh'
    by_cases e : h' = h
    · rw [e]; exact hH
    · have hn := n2 h' (by omega) e
      have e0 : D' (3 + 12 * h') = D (3 + 12 * h') := d2 h' (by omega) e 0 (by decide)
      have e1 := d2 h' (by omega) e 1 (by decide)
      rw [show 3 + 12 * h' + 1 = 4 + 12 * h' by omega] at e1
      unfold WH
      rw [hn 0 (by decide), hn 1 (by decide), hn 2 (by decide), hn 4 (by decide), hn 5 (by decide), hn 6 (by decide), hn 7 (by decide), e0, e1]
      exact wh h' hh'
  · rw [z0] at hh'
    intro y
    have h8' : h' < 8 := by omega
    rw [a3 h' h8'] at y
    obtain ⟨o1, o2, o3, o4, o5, o6⟩ := wo h' hh' y
    have t8 := dst_le (N := N) g0 hh'
    rw [a3 h' h8', a8 h' h8', z2, n3 _ (by omega), n3 _ (by omega), n3 _ (by omega), dS]
    exact ⟨o1, o2, o3, o4, fun k hk => by rw [aD h' k h8' (by omega)]; exact o5 k hk, fun k hk => by rw [aD h' k h8' (by omega), aD h' (k + 1) h8' (by omega)]; exact o6 k hk⟩
  · rw [z0] at q1
    rw [n2 h' q2 (by omega) k hk]; exact wz h' q1 q2 k hk
  · rw [z0] at q1 q2
    rw [a3 h1 (by omega), a3 h2 (by omega)]; exact wd h1 h2 q1 q2
  · rw [z2] at hp
    unfold WQ
    rw [n3 _ (by omega), n3 _ (by omega), n3 _ (by omega), n3 _ (by omega), n3 _ (by omega), n3 _ (by omega), n3 _ (by omega), n3 _ (by omega)]
    exact wq p hp
  · rw [n1 11 (by decide)]; exact L0
  · rw [n1 11 (by decide)] at hk
    rw [n3 _ (by omega), z2, n3 _ (by omega)]; exact L1 k hk
  · rw [z2] at hp
    rw [n3 _ (by omega), n1 11 (by decide), n3 _ (by omega)]; exact L2 p hp
  · unfold WC
    rw [cS_cnt, cS_cnt, z0, z2, n1 11 (by decide), n1 4 (by decide), n1 5 (by decide), cH_same N N' (N 0) (fun q hq => a3 q (by omega))]
    rw [cS_cnt] at k0 k1
    have u3 := sm_upd (fun h => N (12 + 10 * h + 4)) (fun h => N' (12 + 10 * h + 4)) h 8 (by omega) (fun q hq e => n2 q hq e 4 (by decide))
    have u4 := sm_upd (fun h => N (12 + 10 * h + 7)) (fun h => N' (12 + 10 * h + 7)) h 8 (by omega) (fun q hq e => n2 q hq e 7 (by decide))
    refine ⟨?_, ?_, fun e h1 h2 => ?_, by omega, by omega⟩
    · rw [← k0]; exact cnt_same _ _ _ _ (fun q _ => n3 _ (by omega))
    · rw [← k1]; exact cnt_same _ _ _ _ (fun q _ => n3 _ (by omega))
    · rw [n1 (5 + e) (by omega), ← k2 e h1 h2]; exact cnt_same _ _ _ _ (fun q _ => n3 _ (by omega))
theorem WF.t10 (w : WF N D P b) : ∀ h, h < N 0 → N (12 + 10 * h + 3) ≠ 0 → N (12 + 10 * h + 8) - 1 < 10 := fun h hh q => by have := w.t8 hh q; omega
