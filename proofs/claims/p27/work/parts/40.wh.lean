/-! THE PURE PART, 18: a step keeps what a state keeps; the class's step -/
variable {M M' : Mem} {c h p t b b' : Nat} {N N' P P' : Nat → Nat} {D D' : Nat → UInt64}
theorem wf_fill (w : WF N D P b) (hh : h < N 0) (h3 : N (12 + 10 * h + 3) = 0) (k : Nat) (hk : k < N 11) (hp : N (572 + k) = p) : WF (fiN N h k) (up D (5 + 12 * h) (D 0)) (fiP P k) b := by
  obtain ⟨⟨g0, g8, g1, g2, g31, g3, g4, g5⟩, ⟨r1, r2, r3, r4⟩, wh, wo, wz, wd, wq, L, C⟩ := id w
  obtain ⟨a0, a1, a2, a3, a4, a5, a6, a7, a8⟩ := wh h hh
  obtain ⟨l1, l2, l3⟩ := L.2.1 k hk
  have L0 := L.1
  rw [hp] at l1 l2 l3
  obtain ⟨q0, q1, q2, q3, q4, q5, q6, q7, q8, q9⟩ := wq p l1
  have q9 := q9 (by omega)
  have sA : stA N < N 0 := Nat.mod_lt _ (by omega)
  unfold fiN
  rw [hp]
  have z : ∀ j, j ≠ 12 + 10 * h + 3 → j ≠ 12 + 10 * h + 8 → j ≠ 92 + 8 * p + 3 → j ≠ 11 → j < 572 → up (up (up (rmP (up N 11 (N 11 - 1)) k (N 11 - 1)) (92 + 8 * p + 3) 1) (12 + 10 * h + 3) (p + 1)) (12 + 10 * h + 8) 1 j = N j := by
    intro j j1 j2 j3 j4 j5
    rw [up_ne j2, up_ne j1, up_ne j3, rmP_lo (by omega), up_ne j4]
  obtain ⟨F, hF⟩ : ∃ F, F = up (up (up (rmP (up N 11 (N 11 - 1)) k (N 11 - 1)) (92 + 8 * p + 3) 1) (12 + 10 * h + 3) (p + 1)) (12 + 10 * h + 8) 1 := ⟨_, rfl⟩
  rw [← hF] at z ⊢
  have f3 : F (12 + 10 * h + 3) = p + 1 := by rw [hF, up_ne (by omega), up_eq]
  have f8 : F (12 + 10 * h + 8) = 1 := by rw [hF, up_eq]
  have fs : F (92 + 8 * p + 3) = 1 := by rw [hF, up_ne (by omega), up_ne (by omega), up_eq]
  have f11 : F 11 = N 11 - 1 := by rw [hF, up_ne (by omega), up_ne (by omega), up_ne (by omega), rmP_lo (by omega), up_eq]
  have e5 : ∀ e, 1 ≤ e → e ≤ 5 → F (5 + e) = N (5 + e) := fun e h1 h2 => z _ (by omega) (by omega) (by omega) (by omega) (by omega)
  refine wf_upd w (Nat.le_refl b) hh l1 ?_ ?_ ?_ ?_ ?_ ?_ ?_ ?_ ?_ ?_ (Or.inr f3) ?_ ?_ ?_ ?_ ?_ ?_ ?_
  · exact fun j hj => z j (by omega) (by omega) (by omega) (by omega) (by omega)
  · exact fun h' hh' hn k hk => z _ (by omega) (by omega) (by omega) (by omega) (by omega)
  · exact fun q hq hn k hk => z _ (by omega) (by omega) (by omega) (by omega) (by omega)
  · exact fun j hj => up_ne (by omega)
  · exact fun h' hh' hn k hk => up_ne (by omega)
  · rw [z 4 (by omega) (by omega) (by omega) (by omega) (by omega)]; exact g4
  · rw [z 5 (by omega) (by omega) (by omega) (by omega) (by omega)]; exact g5
  · unfold WH
    rw [z _ (by omega) (by omega) (by omega) (by omega) (by omega), z _ (by omega) (by omega) (by omega) (by omega) (by omega), z _ (by omega) (by omega) (by omega) (by omega) (by omega), z _ (by omega) (by omega) (by omega) (by omega) (by omega), z _ (by omega) (by omega) (by omega) (by omega) (by omega), z _ (by omega) (by omega) (by omega) (by omega) (by omega), z _ (by omega) (by omega) (by omega) (by omega) (by omega), up_ne (by omega), up_ne (by omega)]
    exact ⟨a0, a1, a2, a3, a4, a5, a6, a7, a8⟩
  · intro _
    have dS : dst F h = dst N h := by
      unfold dst stA
      rw [z 0 (by omega) (by omega) (by omega) (by omega) (by omega), z 1 (by omega) (by omega) (by omega) (by omega) (by omega)]
    rw [f3, f8, Nat.add_sub_cancel, fs, z 2 (by omega) (by omega) (by omega) (by omega) (by omega), dS]
    refine ⟨by omega, rfl, Nat.le_refl _, ?_, fun k hk => ?_, fun k hk => by omega⟩
    · unfold dst; split <;> omega
    · rw [up_at (by omega)]; exact r1
  · intro h' hh' hn e
    have := (wo h' hh' (by omega)).2.1
    rw [e, Nat.add_sub_cancel] at this
    omega
  · unfold WQ
    rw [fs, z _ (by omega) (by omega) (by omega) (by omega) (by omega), z _ (by omega) (by omega) (by omega) (by omega) (by omega), z _ (by omega) (by omega) (by omega) (by omega) (by omega), z _ (by omega) (by omega) (by omega) (by omega) (by omega), z _ (by omega) (by omega) (by omega) (by omega) (by omega), z _ (by omega) (by omega) (by omega) (by omega) (by omega), z _ (by omega) (by omega) (by omega) (by omega) (by omega)]
    exact ⟨q0, q1, q2, q3, by decide, q5, q6, q7, q8, fun _ => q9⟩
  · refine LN_rm L k hk hp (z 2 (by omega) (by omega) (by omega) (by omega) (by omega)) f11 (fun j hj => ?_) (fun j h1 h2 => ?_) (fun q hq hn => z _ (by omega) (by omega) (by omega) (by omega) (by omega)) (by omega)
    · rw [hF, up_ne (by omega), up_ne (by omega), up_ne (by omega), rmP_lo (by omega), up_ne (by omega)]
    · rw [hF, up_ne (by omega), up_ne (by omega), up_ne (by omega)]
      unfold rmP
      rw [if_pos (by omega), up_ne (by omega)]
      rfl
  · rw [f11, fs, if_pos l2, if_neg (by decide)]; omega
  · rw [f3, fs, h3, if_neg (by omega), if_neg (by omega), if_pos rfl, if_pos rfl]
  · intro e h1 h2
    rw [e5 e h1 h2, z (92 + 8 * p + 7) (by omega) (by omega) (by omega) (by omega) (by omega)]
  · rw [z 4 (by omega) (by omega) (by omega) (by omega) (by omega), z (12 + 10 * h + 4) (by omega) (by omega) (by omega) (by omega) (by omega)]
  · rw [z 5 (by omega) (by omega) (by omega) (by omega) (by omega), z (12 + 10 * h + 7) (by omega) (by omega) (by omega) (by omega) (by omega)]
theorem mod_s {n m : Nat} (h : 2 ≤ m) : (n + 1) % m = if n % m + 1 < m then n % m + 1 else 0 := by
  have h1 : n % m < m := Nat.mod_lt _ (by omega)
  rw [Nat.add_mod, Nat.mod_eq_of_lt (show 1 < m by omega)]
  by_cases e : n % m + 1 < m
  · rw [if_pos e, Nat.mod_eq_of_lt e]
  · rw [if_neg e, show n % m + 1 = m by omega, Nat.mod_self]
theorem wf_leak (w : WF N D P b) (h3 : N (12 + 10 * stA N + 3) ≠ 0 → N (12 + 10 * stA N + 8) = 1) (h1 : N 1 + 1 ≤ b) : WF (inc (lkN N (stA N) (N 0)) 1) (lkD N D (stA N) (N 0)) P b := by
  obtain ⟨⟨g0, g8, g1, g2, g31, g3, g4, g5⟩, ⟨r1, r2, r3, r4⟩, wh, wo, wz, wd, wq, ⟨L0, L1, L2⟩, ⟨k0, k1, k2, k3, k4⟩⟩ := id w
  obtain ⟨a, ha⟩ : ∃ a, a = stA N := ⟨_, rfl⟩
  have sA : a < N 0 := by rw [ha]; exact Nat.mod_lt _ (by omega)
  rw [← ha] at h3 ⊢
  obtain ⟨F, hF⟩ : ∃ F, F = inc (lkN N a (N 0)) 1 := ⟨_, rfl⟩
  obtain ⟨G, hG⟩ : ∃ G, G = lkD N D a (N 0) := ⟨_, rfl⟩
  have t9 : ∀ h, h < N 0 → N (12 + 10 * h + 3) ≠ 0 → 1 ≤ N (12 + 10 * h + 8) ∧ N (12 + 10 * h + 8) ≤ 8 := fun h hh q => w.t8 hh q
  have z : ∀ j, j ≠ 1 → (∀ m, m < N 0 → j ≠ 12 + 10 * m + 8) → F j = N j := fun j j1 j2 => by rw [hF, inc_ne j1]; exact lkN_ne N a j _ j2
  have z1 : F 1 = N 1 + 1 := by rw [hF, inc_eq, lkN_ne N a 1 _ (by omega)]
  have z8 : ∀ h, h < N 0 → h ≠ a → N (12 + 10 * h + 3) ≠ 0 → F (12 + 10 * h + 8) = N (12 + 10 * h + 8) + 1 := fun h hh e q => by rw [hF, inc_ne (by omega)]; exact lkN_eq N a h _ hh e q
  have z8a : F (12 + 10 * a + 8) = N (12 + 10 * a + 8) := by rw [hF, inc_ne (by omega)]; exact lkN_ne2 N a _ _ (fun m _ e _ => by omega)
  have d : ∀ x, (∀ m, m < N 0 → m ≠ a → N (12 + 10 * m + 3) ≠ 0 → x ≠ 5 + 12 * m + N (12 + 10 * m + 8)) → G x = D x := fun x hx => by rw [hG]; exact lkD_ne2 N D a x _ hx
  have d8 : ∀ h, h < N 0 → h ≠ a → N (12 + 10 * h + 3) ≠ 0 → G (5 + 12 * h + N (12 + 10 * h + 8)) = nx N D h := fun h hh e q => by rw [hG]; exact lkD_eq N D a h _ (fun m hm _ e => by have := t9 m hm e; omega) hh e q
  have f0 : F 0 = N 0 := z 0 (by omega) (by omega)
  have f2 : F 2 = N 2 := z 2 (by omega) (by omega)
  have a' : stA F = if a + 1 < N 0 then a + 1 else 0 := by
    unfold stA
    rw [z1, f0, mod_s g0]
    have : N 1 % N 0 = a := ha.symm
    rw [this]
  have ds : ∀ h, h < N 0 → h ≠ a → dst F h = dst N h + 1 := by
    intro h hh e
    unfold dst
    rw [a', f0, ← ha]
    by_cases q : a + 1 < N 0
    · rw [if_pos q]
      by_cases q2 : h < a
      · rw [if_pos q2, if_pos (by omega)]; omega
      · rw [if_neg q2, if_neg (by omega)]; omega
    · rw [if_neg q, if_neg (by omega), if_pos (by omega)]; omega
  have dsa : dst F a = 1 := by
    unfold dst
    rw [a', f0]
    by_cases q : a + 1 < N 0
    · rw [if_pos q, if_pos (by omega)]; omega
    · rw [if_neg q, if_neg (by omega)]; omega
  have hn : ∀ h k, h < 8 → k < 8 → F (12 + 10 * h + k) = N (12 + 10 * h + k) := fun h k _ _ => z _ (by omega) (by omega)
  have pn : ∀ q k, F (92 + 8 * q + k) = N (92 + 8 * q + k) := fun q k => z _ (by omega) (by omega)
  rw [← hF, ← hG]
  refine ⟨⟨by omega, by omega, by omega, by omega, by rw [z 3 (by omega) (by omega)]; exact g31, by rw [z 3 (by omega) (by omega)]; exact g3, by rw [z 4 (by omega) (by omega)]; exact g4, by rw [z 5 (by omega) (by omega)]; exact g5⟩, ⟨by rw [d 0 (by omega)]; exact r1, by rw [d 0 (by omega)]; exact r2, by rw [d 1 (by omega)]; exact r3, by rw [d 2 (by omega)]; exact r4⟩, ?_, ?_, ?_, ?_, ?_, ?_, ?_⟩
  · intro h hh
    rw [f0] at hh
    unfold WH
    rw [hn h 0 (by omega) (by decide), hn h 1 (by omega) (by decide), hn h 2 (by omega) (by decide), hn h 4 (by omega) (by decide), hn h 5 (by omega) (by decide), hn h 6 (by omega) (by decide), hn h 7 (by omega) (by decide), d _ (fun m hm _ q => by have := t9 m hm q; omega), d _ (fun m hm _ q => by have := t9 m hm q; omega)]
    exact wh h hh
  · intro h hh
    rw [f0] at hh
    intro q
    rw [hn h 3 (by omega) (by decide)] at q
    obtain ⟨o1, o2, o3, o4, o5, o6⟩ := wo h hh q
    have tt := t9 h hh q
    rw [hn h 3 (by omega) (by decide), f2, pn, pn, pn]
    by_cases e : h = a
    · subst e
      rw [z8a, dsa, h3 q]
      refine ⟨o1, o2, Nat.le_refl _, Nat.le_refl _, fun k hk => ?_, fun k hk => by omega⟩
      rw [d _ (fun m hm me mq => by have := t9 m hm mq; omega)]
      exact o5 k (by omega)
    · rw [z8 h hh e q, ds h hh e]
      have dk : ∀ k, k < N (12 + 10 * h + 8) → G (5 + 12 * h + k) = D (5 + 12 * h + k) := fun k hk => d _ (fun m hm me mq => by
        have := t9 m hm mq
        by_cases em : m = h
        · subst em; omega
        · omega)
      have q2 := wq (N (12 + 10 * h + 3) - 1) (by omega)
      have pzn : PZ (nx N D h) := (dec_ok (o5 (N (12 + 10 * h + 8) - 1) (by omega)) q2.2.1 q2.2.2.1 q2.2.2.2.1).2.2.2
      refine ⟨o1, o2, by omega, by omega, fun k hk => ?_, fun k hk => ?_⟩
      · by_cases ek : k = N (12 + 10 * h + 8)
        · rw [ek, d8 h hh e q]; exact pzn
        · rw [dk k (by omega)]; exact o5 k (by omega)
      · by_cases ek : k + 1 = N (12 + 10 * h + 8)
        · rw [ek, d8 h hh e q, dk k (by omega)]
          unfold nx
          rw [show N (12 + 10 * h + 8) - 1 = k by omega]
        · rw [dk k (by omega), dk (k + 1) (by omega)]
          exact o6 k (by omega)
  · intro h hh h8 k hk
    rw [f0] at hh
    rw [z _ (by omega) (by omega)]
    exact wz h hh h8 k hk
  · intro h h' hh hh' q1 q2
    rw [f0] at hh hh'
    rw [hn h 3 (by omega) (by decide)] at q1 q2
    rw [hn h' 3 (by omega) (by decide)] at q2
    exact wd h h' hh hh' q1 q2
  · intro q hq
    rw [f2] at hq
    unfold WQ
    rw [pn, pn, pn, pn, pn, pn, pn, pn]
    exact wq q hq
  · have f11 : F 11 = N 11 := z 11 (by omega) (by omega)
    have fl : ∀ k, F (572 + k) = N (572 + k) := fun k => z _ (by omega) (by omega)
    refine ⟨by omega, fun k hk => ?_, fun q hq hs => ?_⟩
    · rw [f11] at hk
      rw [fl, f2, pn]; exact L1 k hk
    · rw [f2] at hq
      rw [pn] at hs
      rw [f11, fl]; exact L2 q hq hs
  · unfold WC
    rw [cS_cnt, cS_cnt, f2, f0]
    rw [cS_cnt] at k0 k1
    refine ⟨?_, ?_, fun e h1 h2 => ?_, ?_, ?_⟩
    · rw [z 11 (by omega) (by omega), ← k0]
      exact cnt_same _ _ _ _ (fun q hq => pn q 3)
    · rw [cH_same N F (N 0) (fun q hq => hn q 3 (by omega) (by decide)), ← k1]
      exact cnt_same _ _ _ _ (fun q hq => pn q 3)
    · rw [z (5 + e) (by omega) (by omega), ← k2 e h1 h2]
      exact cnt_same _ _ _ _ (fun q hq => pn q 7)
    · rw [z 4 (by omega) (by omega), ← k3]
      exact sm_same _ _ _ (fun q hq => hn q 4 hq (by decide))
    · rw [z 5 (by omega) (by omega), ← k4]
      exact sm_same _ _ _ (fun q hq => hn q 7 hq (by decide))

