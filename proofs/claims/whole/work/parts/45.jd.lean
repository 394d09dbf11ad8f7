/-! THE PURE PART, 23: acts on heads -/
variable {M M' A : Mem} {b b' c h k tl : Nat} {s s' z : S3} {Hs : Nat → S3} {f : Bool} {q tx : Nat → Nat} {N N' P : Nat → Nat} {D D' : Nat → UInt64}
theorem sub1_lt {x : Int32} {n : Nat} (hn : n < 2 ^ 30) (hx : nI n ≤ x) : nI n - 1 < x := by
  have t := pk_sub_toInt (a := n) (b := 1) hn (by decide)
  rw [Int32.le_iff_toInt_le, nI_toInt (by omega)] at hx
  rw [Int32.lt_iff_toInt_lt]
  have e : (nI n - 1).toInt = (n : Int) - 1 := t
  omega
theorem q_noHeadN {K : Int32 → Mem → Prop} (Qq : Q A M N D) {x : Int32} (h8 : N 0 ≤ 8) (hx : x < 0 ∨ nI (N 0) ≤ x) (H : K 1 M) : w_X6_noHead 457 M 449 x K :=
  ⟨k449, q_r0 Qq (q_rI Qq 0 rfl (by decide) (s_inF (hx.imp id (sub1_lt (by omega))) (cP rfl H)))⟩
theorem q_noHeadY {K : Int32 → Mem → Prop} (Qq : Q A M N D) (h8 : N 0 ≤ 8) (j : Nat) (hj : j < N 0) (H : K 0 M) : w_X6_noHead 457 M 449 (nI j) K := by
  refine ⟨k449, q_r0 Qq (q_rI Qq 0 rfl (by decide) (s_inT (nI_pos (by omega)) ?_ (cN (by decide) H)))⟩
  rw [show nI (N 0) - (1 : Int32) = nI (N 0 - 1) from pk_sub (b := 1) (by omega)]
  exact fun y => by have := (nI_ltI (by omega) (by omega)).mp y; omega
theorem q_noPartN {K : Int32 → Mem → Prop} (Qq : Q A M N D) {x : Int32} (h8 : N 2 ≤ 60) (hx : x < 0 ∨ nI (N 2) ≤ x) (H : K 1 M) : w_X6_noPart 457 M 449 x K :=
  ⟨k449, q_r0 Qq (q_rI Qq 2 rfl (by decide) (s_inF (hx.imp id (sub1_lt (by omega))) (cP rfl H)))⟩
theorem q_noPartY {K : Int32 → Mem → Prop} (Qq : Q A M N D) (h8 : N 2 ≤ 60) (j : Nat) (hj : j < N 2) (H : K 0 M) : w_X6_noPart 457 M 449 (nI j) K := by
  refine ⟨k449, q_r0 Qq (q_rI Qq 2 rfl (by decide) (s_inT (nI_pos (by omega)) ?_ (cN (by decide) H)))⟩
  rw [show nI (N 2) - (1 : Int32) = nI (N 2 - 1) from pk_sub (b := 1) (by omega)]
  exact fun y => by have := (nI_ltI (by omega) (by omega)).mp y; omega
theorem argc (x : Int32) {n : Nat} (hn : n < 2 ^ 31) : (x < 0 ∨ nI n ≤ x) ∨ ∃ j, j < n ∧ x = nI j := by
  rcases pk_ix x hn with e | e | e
  · exact Or.inl (Or.inl e)
  · exact Or.inl (Or.inr e)
  · exact Or.inr e
/-- one head changes, no part does -/
theorem cr_updh (cr : CR M c N D P) (h : Nat) (hh : h < N 0) (h0 : N 0 ≤ 8) (h2 : N 2 ≤ 60) (t8 : ∀ h, h < N 0 → N (12 + 10 * h + 3) ≠ 0 → N (12 + 10 * h + 8) - 1 < 10)
    (m1 : ∀ r k, r ≠ c + 5 + h → gI M' r k = gI M r k) (m2 : ∀ r k, r ≠ c + 5 + h → gD M' r k = gD M r k) (mL : M'.2.2 = M.2.2) (m4 : gI M' (c + 5 + h) 0 = gI M (c + 5 + h) 0)
    (n1 : ∀ j, j ≤ 3 → N' j = N j) (n2 : ∀ h', h' < 8 → h' ≠ h → ∀ k, k < 10 → N' (12 + 10 * h' + k) = N (12 + 10 * h' + k)) (n3 : ∀ x, 92 ≤ x → N' x = N x)
    (d1 : ∀ j, j < 3 → D' j = D j) (d2 : ∀ h', h' < 8 → h' ≠ h → ∀ k, k < 12 → D' (3 + 12 * h' + k) = D (3 + 12 * h' + k)) (d3 : ∀ q, q < 60 → D' (99 + q) = D (99 + q))
    (hH : HI M' c N' h) (hD : HD M' c N' D' h) : CR M' c N' D' P := by
  obtain ⟨S, ⟨s1, s2, s3, s4, s5⟩, cp, ch, cd, pc, pa⟩ := cr
  have gl : ∀ r k, gL M' r k = gL M r k := fun r k => congrFun (congrFun (congrArg Prod.fst mL) r) k
  refine ⟨S.to (fun h' hh => ?_) (fun p hp => m1 _ _ (by omega)) (fun i k _ _ => gl _ _) (congrArg Prod.snd mL), ?_, fun i hi => ?_, fun h' hh => ?_, fun h' hh => ?_, fun p hp => ?_, fun p p1 p2 => ?_⟩
  · by_cases e : h' = h
    · rw [e]; exact m4
    · exact m1 _ _ (by omega)
  · unfold CS
    rw [m1 c 5 (by omega), m1 c 6 (by omega), m1 c 7 (by omega), m1 c 8 (by omega), m1 c 9 (by omega), n1 0 (by decide), n1 1 (by decide), n1 2 (by decide), n1 3 (by decide)]
    exact ⟨s1, s2, s3, s4, s5⟩
  · rw [d1 i hi, m2 _ _ (by omega), gl]; exact cp i hi
  · by_cases e : h' = h
    · rw [e]; exact hH
    · exact hi_same h' (fun k => m1 _ _ (by omega)) (n2 h' hh e) (ch h' hh)
  · rw [n1 0 (by decide)] at hh
    by_cases e : h' = h
    · rw [e]; exact hD
    · exact hd_same h' (t8 h' hh) (fun k => m1 _ _ (by omega)) (fun k => m2 _ _ (by omega)) (n2 h' (by omega) e) (d2 h' (by omega) e) (cd h' hh)
  · rw [n1 2 (by decide)] at hp
    have x := pc p hp
    unfold PC at x ⊢
    rw [m1 _ _ (by omega), m1 _ _ (by omega), m1 _ _ (by omega), m1 _ _ (by omega), m1 _ _ (by omega), m1 _ _ (by omega), m1 _ _ (by omega), m1 _ _ (by omega), m1 _ _ (by omega), m2 _ _ (by omega), n3 _ (by omega), n3 _ (by omega), n3 _ (by omega), n3 _ (by omega), n3 _ (by omega), n3 _ (by omega), n3 _ (by omega), n3 _ (by omega), d3 p (by omega)]
    exact x
  · rw [n1 2 (by decide)] at p1
    have x := pa p p1 p2
    unfold PA at x ⊢
    rw [m1 _ _ (by omega), m1 _ _ (by omega), m1 _ _ (by omega)]
    exact x
theorem wf_updh (w : WF N D P b) (hh : h < N 0) (n1 : ∀ j, j ≤ 11 → N' j = N j) (n2 : ∀ h', h' < 8 → h' ≠ h → ∀ k, k < 10 → N' (12 + 10 * h' + k) = N (12 + 10 * h' + k)) (n3 : ∀ x, 92 ≤ x → N' x = N x)
    (d1 : ∀ j, j < 3 → D' j = D j) (d2 : ∀ h', h' < 8 → h' ≠ h → ∀ k, k < 12 → D' (3 + 12 * h' + k) = D (3 + 12 * h' + k)) (d3 : ∀ k, k < 10 → D' (5 + 12 * h + k) = D (5 + 12 * h + k))
    (hH : WH N' D' b h) (e3 : N' (12 + 10 * h + 3) = N (12 + 10 * h + 3)) (e4 : N' (12 + 10 * h + 4) = N (12 + 10 * h + 4)) (e7 : N' (12 + 10 * h + 7) = N (12 + 10 * h + 7)) (e8 : N' (12 + 10 * h + 8) = N (12 + 10 * h + 8)) : WF N' D' P b := by
  obtain ⟨⟨g0, g8, g1, g2, g31, g3, g4, g5⟩, ⟨r1, r2, r3, r4⟩, wh, wo, wz, wd, wq, ⟨L0, L1, L2⟩, ⟨k0, k1, k2, k3, k4⟩⟩ := w
  have z0 := n1 0 (by decide)
  have z2 := n1 2 (by decide)
  have dS : ∀ h, dst N' h = dst N h := fun h => by unfold dst stA; rw [z0, n1 1 (by decide)]
  have a3 : ∀ h', h' < 8 → N' (12 + 10 * h' + 3) = N (12 + 10 * h' + 3) := fun h' hh => by
    by_cases e : h' = h
    · rw [e]; exact e3
    · exact n2 h' hh e 3 (by decide)
  have a8 : ∀ h', h' < 8 → N' (12 + 10 * h' + 8) = N (12 + 10 * h' + 8) := fun h' hh => by
    by_cases e : h' = h
    · rw [e]; exact e8
    · exact n2 h' hh e 8 (by decide)
  have aD : ∀ h' k, h' < 8 → k < 10 → D' (5 + 12 * h' + k) = D (5 + 12 * h' + k) := fun h' k hh hk => by
    by_cases e : h' = h
    · rw [e]; exact d3 k hk
    · have := d2 h' hh e (2 + k) (by omega)
      rw [show 3 + 12 * h' + (2 + k) = 5 + 12 * h' + k by omega] at this
      exact this
  refine ⟨⟨by omega, by omega, by rw [n1 1 (by decide)]; exact g1, by omega, by rw [n1 3 (by decide)]; exact g31, by rw [n1 3 (by decide)]; exact g3, by rw [n1 4 (by decide)]; exact g4, by rw [n1 5 (by decide)]; exact g5⟩, ⟨by rw [d1 0 (by decide)]; exact r1, by rw [d1 0 (by decide)]; exact r2, by rw [d1 1 (by decide)]; exact r3, by rw [d1 2 (by decide)]; exact r4⟩, fun h' hh' => ?_, fun h' hh' => ?_, fun h' q1 q2 k hk => ?_, fun h1 h2 q1 q2 => ?_, fun p hp => ?_, ⟨?_, fun k hk => ?_, fun p hp => ?_⟩, ?_⟩
  · rw [z0] at hh'
    by_cases e : h' = h
    · rw [e]; exact hH
    · have hn := n2 h' (by omega) e
      have e0 : D' (3 + 12 * h') = D (3 + 12 * h') := d2 h' (by omega) e 0 (by decide)
      have e1 := d2 h' (by omega) e 1 (by decide)
      rw [show 3 + 12 * h' + 1 = 4 + 12 * h' by omega] at e1
      unfold WH
      rw [hn 0 (by decide), hn 1 (by decide), hn 2 (by decide), hn 4 (by decide), hn 5 (by decide), hn 6 (by decide), hn 7 (by decide), e0, e1]
      exact wh h' hh'
  · rw [z0] at hh'
    intro y
    have h8' : h' < 8 := by omega
    rw [a3 h' h8'] at y
    obtain ⟨o1, o2, o3, o4, o5, o6⟩ := wo h' hh' y
    have t8 := dst_le (N := N) g0 hh'
    rw [a3 h' h8', a8 h' h8', z2, n3 _ (by omega), n3 _ (by omega), n3 _ (by omega), dS]
    exact ⟨o1, o2, o3, o4, fun k hk => by rw [aD h' k h8' (by omega)]; exact o5 k hk, fun k hk => by rw [aD h' k h8' (by omega), aD h' (k + 1) h8' (by omega)]; exact o6 k hk⟩
  · rw [z0] at q1
    rw [n2 h' q2 (by omega) k hk]; exact wz h' q1 q2 k hk
  · rw [z0] at q1 q2
    rw [a3 h1 (by omega), a3 h2 (by omega)]; exact wd h1 h2 q1 q2
  · rw [z2] at hp
    unfold WQ
    rw [n3 _ (by omega), n3 _ (by omega), n3 _ (by omega), n3 _ (by omega), n3 _ (by omega), n3 _ (by omega), n3 _ (by omega), n3 _ (by omega)]
    exact wq p hp
  · rw [n1 11 (by decide)]; exact L0
  · rw [n1 11 (by decide)] at hk
    rw [n3 _ (by omega), z2, n3 _ (by omega)]; exact L1 k hk
  · rw [z2] at hp
    rw [n3 _ (by omega), n1 11 (by decide), n3 _ (by omega)]; exact L2 p hp
  · unfold WC
    rw [cS_cnt, cS_cnt, z0, z2, n1 11 (by decide), n1 4 (by decide), n1 5 (by decide), cH_same N N' (N 0) (fun q hq => a3 q (by omega))]
    rw [cS_cnt] at k0 k1
    have u3 := sm_upd (fun h => N (12 + 10 * h + 4)) (fun h => N' (12 + 10 * h + 4)) h 8 (by omega) (fun q hq e => n2 q hq e 4 (by decide))
    have u4 := sm_upd (fun h => N (12 + 10 * h + 7)) (fun h => N' (12 + 10 * h + 7)) h 8 (by omega) (fun q hq e => n2 q hq e 7 (by decide))
    refine ⟨?_, ?_, fun e h1 h2 => ?_, by omega, by omega⟩
    · rw [← k0]; exact cnt_same _ _ _ _ (fun q _ => n3 _ (by omega))
    · rw [← k1]; exact cnt_same _ _ _ _ (fun q _ => n3 _ (by omega))
    · rw [n1 (5 + e) (by omega), ← k2 e h1 h2]; exact cnt_same _ _ _ _ (fun q _ => n3 _ (by omega))
theorem WF.t10 (w : WF N D P b) : ∀ h, h < N 0 → N (12 + 10 * h + 3) ≠ 0 → N (12 + 10 * h + 8) - 1 < 10 := fun h hh q => by have := w.t8 hh q; omega
theorem y_equip {K : Int32 → Mem → Prop} (V : INV M b) (x y v : Int32) (H : ∀ a M1, An (w_X6_equip 457 M1 449 x y v) a b → K a M1) : w_X5_equip 457 M 1 x y v K := by
  obtain ⟨s, Hs, k, z, f, q, tl, tx, I, R⟩ := id V
  have cr0 := I.2.2.2.1.1
  have w0 := I.2.2.2.1.2
  have c2 := kc0 car2
  refine ⟨k1, m_rR I.1.1 ⟨c2, ?_⟩⟩
  rcases argc x (n := s.1 0) (by have := w0.n.1; omega) with e | ⟨j, hj, rfl⟩
  · exact c_headN cr0.1 cr0.2.1.2.1 e (cP rfl (H _ _ (fun K h => ⟨k449, q_noHeadN R.qq w0.n.1 e (cF (by decide) (h M V))⟩)))
  have hj8 : j < 8 := by have := w0.n.1; omega
  refine c_headY cr0.1 cr0.2.1.2.1 w0.n.1 j hj (cN (by omega) ?_)
  have bad : (y < 0 ∨ (1000 : Int32) < y ∨ v < 0 ∨ (2 : Int32) < v) → K (-2) M := by
    intro hb
    refine H _ _ (fun K h => ⟨k449, q_noHeadY R.qq w0.n.1 j hj (cT rfl ?_)⟩)
    by_cases e1 : y < 0 ∨ (1000 : Int32) < y
    · exact s_inF e1 (cT rfl (h M V))
    · refine s_inT (fun a => e1 (Or.inl a)) (fun a => e1 (Or.inr a)) (cF (by decide) (s_inF ?_ (cP rfl (h M V))))
      rcases hb with a | a | a | a
      · exact absurd (Or.inl a) e1
      · exact absurd (Or.inr a) e1
      · exact Or.inl a
      · exact Or.inr a
  by_cases y1 : y < 0
  · exact cT y1 (bad (Or.inl y1))
  refine cF y1 ?_
  by_cases y2 : (1000 : Int32) < y
  · exact cT y2 (bad (Or.inr (Or.inl y2)))
  refine cF y2 ?_
  by_cases v1 : v < 0
  · exact cT v1 (bad (Or.inr (Or.inr (Or.inl v1))))
  refine cF v1 ?_
  by_cases v2 : v ≤ (2 : Int32)
  · obtain ⟨w, -, w2, rfl⟩ := rng 0 1000 rfl rfl (by decide) (by decide) y1 y2
    obtain ⟨u, -, u2, rfl⟩ := rng 0 2 rfl rfl (by decide) (by decide) v1 (not_lt_le v2)
    refine cT v2 ⟨kch car2 j hj8, ?_⟩
    obtain ⟨x3, x4, -⟩ := cr0.2.2.2.1 j hj8
    obtain ⟨a0, a1, -⟩ := w0.2.2.1 j hj
    rw [x3, x4]
    have act : ¬ (w = s.1 (12 + 10 * j + 0) ∧ u = s.1 (12 + 10 * j + 1)) → w_X5_remember 457 M 1 (fun M7 => (∀ x8, x8 = gI M7 (2 + 5 + j) 3 → (∀ M9, M9 = sI M7 (2 + 5 + j) 3 (nI w) → (∀ M10, M10 = sI M9 (2 + 5 + j) 4 (nI u) → K x8 M10)))) := by
      intro ne
      refine c_remember I (fun M1 q1 I1 F1 => m_eq (m_eq (m_eq (H _ _ (fun K h => ?_)))))
      have cr := I1.2.2.2.1.1
      have wf := I1.2.2.2.1.2
      have o : OnC 2 M1 (sI (sI M1 (2 + 5 + j) 3 (nI w)) (2 + 5 + j) 4 (nI u)) := (onC_I (by omega) (by omega)).trans (onC_I (by omega) (by omega))
      have R1 := (R.fr F1).fr (o.fc car2)
      obtain ⟨X3, X4, X5, X6, X10, X11, X12, X13⟩ := cr.2.2.2.1 j hj8
      refine ⟨k449, q_noHeadY R1.qq w0.n.1 j hj (cT rfl (s_inT y1 y2 (cF (by decide) (s_inT v1 (not_lt_le v2) (cN (by decide) (q_ofHead R1.qq j 0 hj8 (by decide) ?_))))))⟩
      have fin : ∀ M4, w_X6_record 457 M4 449 (fun M10 => (∀ r11, r11 = gR M10 449 0 → ((r11 ≤ 457 ∧ (kd r11).1 = 7 ∧ vp_in (((12 : Int32) + ((10 : Int32) * nI j)) + (0 : Int32)) (kd r11).2) ∧ (∀ M12, M12 = sI M10 r11 (Int32.toNatClampNeg (((12 : Int32) + ((10 : Int32) * nI j)) + (0 : Int32))) (nI w) → (∀ r13, r13 = gR M12 449 0 → ((r13 ≤ 457 ∧ (kd r13).1 = 7 ∧ vp_in (((12 : Int32) + ((10 : Int32) * nI j)) + (1 : Int32)) (kd r13).2) ∧ (∀ M14, M14 = sI M12 r13 (Int32.toNatClampNeg (((12 : Int32) + ((10 : Int32) * nI j)) + (1 : Int32))) (nI u) → K (nI (s.1 (12 + 10 * j + 0))) M14))))))) ∨ M4 ≠ sI (sI M1 (2 + 5 + j) 3 (nI w)) (2 + 5 + j) 4 (nI u) := by
        intro M4
        by_cases hM : M4 = sI (sI M1 (2 + 5 + j) 3 (nI w)) (2 + 5 + j) 4 (nI u)
        · refine Or.inl ?_
          subst hM
          refine r_rec R1 I.2.2.2.2.1.1 (fun M3 R3 F3 => q_r0 R3.qq (q_wI R3.qq (12 + 10 * j + 0) w (ixH j 0) (by omega) rfl (fun M4 Q4 => q_r0 Q4 (q_wI Q4 (12 + 10 * j + 1) u (ixH j 1) (by omega) rfl (fun M5 Q5 => ?_)))))
          rw [← X3]
          refine h M5 (inv_fin (s := (up (up s.1 (12 + 10 * j + 0) w) (12 + 10 * j + 1) u, s.2.1, s.2.2)) (I1.act o ?_ ?_ (Nat.le_refl b)) (R3.act Q5.2 Q5.1) (F3.trans Q5.2.fr))
          · show CR _ 2 (up (up s.1 (12 + 10 * j + 0) w) (12 + 10 * j + 1) u) s.2.1 s.2.2
            obtain ⟨y1, y2, y3⟩ := cr.2.2.2.2.1 j hj
            refine cr_updh cr j hj wf.n.1 wf.n.2 (WF.t10 wf) (fun r k hr => by rw [gI_ne (Or.inl hr), gI_ne (Or.inl hr)]) (fun _ _ _ => rfl) rfl ?_ ?_ ?_ ?_ (fun _ _ => rfl) (fun _ _ _ _ _ => rfl) (fun _ _ => rfl) ?_ ?_
            · rw [gI_ne (Or.inr (by decide)), gI_ne (Or.inr (by decide))]
            · intro j' hj'; rw [up_ne (by omega), up_ne (by omega)]
            · intro h' _ e k hk; rw [up_ne (by omega), up_ne (by omega)]
            · intro x hx; rw [up_ne (by omega), up_ne (by omega)]
            · unfold HI
              simp (disch := omega) only [gI_ne, gI_eq, up_ne, up_eq]
              exact ⟨trivial, trivial, X5, X6, X10, X11, X12, X13⟩
            · unfold HD
              simp (disch := omega) only [gI_ne, gD_sI, up_ne]
              exact ⟨y1, y2, y3⟩
          · show WF (up (up s.1 (12 + 10 * j + 0) w) (12 + 10 * j + 1) u) s.2.1 s.2.2 b
            obtain ⟨g0, g1, g2, g3, g4, g5, g6, g7, g8⟩ := wf.2.2.1 j hj
            refine wf_updh wf hj ?_ ?_ ?_ (fun _ _ => rfl) (fun _ _ _ _ _ => rfl) (fun _ _ => rfl) ?_ ?_ ?_ ?_ ?_
            · intro j' hj'; rw [up_ne (by omega), up_ne (by omega)]
            · intro h' _ e k hk; rw [up_ne (by omega), up_ne (by omega)]
            · intro x hx; rw [up_ne (by omega), up_ne (by omega)]
            · unfold WH
              simp (disch := omega) only [up_ne, up_eq]
              exact ⟨w2, u2, g2, g3, g4, g5, g6, g7, g8⟩
            · rw [up_ne (by omega), up_ne (by omega)]
            · rw [up_ne (by omega), up_ne (by omega)]
            · rw [up_ne (by omega), up_ne (by omega)]
            · rw [up_ne (by omega), up_ne (by omega)]
        · exact Or.inr hM
      have fin := (fin _).resolve_right (fun y => y rfl)
      by_cases e1 : w = s.1 (12 + 10 * j + 0)
      · refine cP (by rw [← e1]) (q_ofHead R1.qq j 1 hj8 (by decide) (cN ?_ fin))
        exact fun y => ne ⟨e1, ((nI_eq (by omega) (by omega)).mp y).symm⟩
      · exact cN (fun y => e1 ((nI_eq (by omega) (by omega)).mp y).symm) fin
    by_cases e1 : w = s.1 (12 + 10 * j + 0)
    · refine cP (by rw [e1]) ?_
      by_cases e2 : u = s.1 (12 + 10 * j + 1)
      · refine cP (by rw [e2]) (H _ _ (fun K h => ⟨k449, q_noHeadY R.qq w0.n.1 j hj (cT rfl (s_inT y1 y2 (cF (by decide) (s_inT v1 (not_lt_le v2) (cN (by decide) (q_ofHead R.qq j 0 hj8 (by decide) (cP (by rw [e1]) (q_ofHead R.qq j 1 hj8 (by decide) (cP (by rw [e2]) (h M V)))))))))) ⟩))
      · exact cN (fun y => e2 ((nI_eq (by omega) (by omega)).mp y)) (act (fun y => e2 y.2))
    · exact cN (fun y => e1 ((nI_eq (by omega) (by omega)).mp y)) (act (fun y => e1 y.1))
  · exact cF v2 (bad (Or.inr (Or.inr (Or.inr (not_le_lt v2)))))
