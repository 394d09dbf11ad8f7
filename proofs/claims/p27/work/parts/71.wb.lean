/-! p27, 2: a step keeps it -/
variable {h p t a b b' : Nat} {N N' P P' : Nat → Nat} {D D' : Nat → UInt64}
theorem we_fill (w : WF N D P b) (e : WE N D a) (hh : h < N 0) (h3 : N (12 + 10 * h + 3) = 0) (ha : h = a) (k : Nat) (hk : k < N 11) (hp : N (572 + k) = p) : WE (fiN N h k) (up D (5 + 12 * h) (D 0)) a := by
  obtain ⟨⟨g0, g8, g1, g2, g31, g3, g4, g5⟩, ⟨r1, r2, r3, r4⟩, wh, wo, wz, wd, wq, L, C⟩ := id w
  obtain ⟨l1, l2, l3⟩ := L.2.1 k hk
  have L0 := L.1
  rw [hp] at l1 l2 l3
  obtain ⟨x1, x2, x3, x4⟩ := e.1 p l1
  obtain ⟨y1, y2, y3⟩ := e.2.1 h hh
  unfold fiN
  rw [hp]
  have z : ∀ j, j ≠ 12 + 10 * h + 3 → j ≠ 12 + 10 * h + 8 → j ≠ 92 + 8 * p + 3 → j ≠ 11 → j < 572 → up (up (up (rmP (up N 11 (N 11 - 1)) k (N 11 - 1)) (92 + 8 * p + 3) 1) (12 + 10 * h + 3) (p + 1)) (12 + 10 * h + 8) 1 j = N j := by
    intro j j1 j2 j3 j4 j5
    rw [up_ne j2, up_ne j1, up_ne j3, rmP_lo (by omega), up_ne j4]
  obtain ⟨F, hF⟩ : ∃ F, F = up (up (up (rmP (up N 11 (N 11 - 1)) k (N 11 - 1)) (92 + 8 * p + 3) 1) (12 + 10 * h + 3) (p + 1)) (12 + 10 * h + 8) 1 := ⟨_, rfl⟩
  rw [← hF] at z ⊢
  have fs : F (92 + 8 * p + 3) = 1 := by rw [hF, up_ne (by omega), up_ne (by omega), up_eq]
  have pn : ∀ k, k < 8 → k ≠ 3 → F (92 + 8 * p + k) = N (92 + 8 * p + k) := fun k h1 h2 => z _ (by omega) (by omega) (by omega) (by omega) (by omega)
  have hn : ∀ k, k < 8 → k ≠ 3 → F (12 + 10 * h + k) = N (12 + 10 * h + k) := fun k h1 h2 => z _ (by omega) (by omega) (by omega) (by omega) (by omega)
  refine we_upd e g8 g2 hh l1 ?_ ?_ ?_ ?_ ?_ ?_ ?_ (Or.inl ha) ?_ ?_ ?_
  · exact fun j hj => z j (by omega) (by omega) (by omega) (by omega) (by omega)
  · exact fun h' hh' hn k hk => z _ (by omega) (by omega) (by omega) (by omega) (by omega)
  · exact fun q hq hn k hk => z _ (by omega) (by omega) (by omega) (by omega) (by omega)
  · exact fun h' hh' hn => up_ne (by omega)
  · exact fun q hq hn => up_ne (by omega)
  · unfold WX
    rw [fs, pn 1 (by decide) (by decide), pn 4 (by decide) (by decide), pn 5 (by decide) (by decide), pn 6 (by decide) (by decide), up_ne (by omega)]
    exact ⟨fun y => by omega, x2, x3, x4⟩
  · unfold WY
    rw [hn 2 (by decide) (by decide), hn 4 (by decide) (by decide), hn 5 (by decide) (by decide), hn 6 (by decide) (by decide), hn 7 (by decide) (by decide), up_ne (by omega)]
    exact ⟨y1, y2, y3⟩
  · rw [z 4 (by omega) (by omega) (by omega) (by omega) (by omega), pn 4 (by decide) (by decide)]
  · rw [hn 5 (by decide) (by decide), fs, l2]; simp
  · rw [hn 6 (by decide) (by decide), z 10 (by omega) (by omega) (by omega) (by omega) (by omega), fs, l2]; simp
theorem we_leak (w : WF N D P b) (e : WE N D (stA N)) (h3 : N (12 + 10 * stA N + 3) ≠ 0 → N (12 + 10 * stA N + 8) = 1) : WE (inc (lkN N (stA N) (N 0)) 1) (lkD N D (stA N) (N 0)) 8 := by
  obtain ⟨⟨g0, g8, g1, g2, g31, g3, g4, g5⟩, ⟨r1, r2, r3, r4⟩, wh, wo, wz, wd, wq, ⟨L0, L1, L2⟩, ⟨k0, k1, k2, k3, k4⟩⟩ := id w
  obtain ⟨x, y, tt, t1, t2, t3⟩ := e
  obtain ⟨a, ha⟩ : ∃ a, a = stA N := ⟨_, rfl⟩
  have sA : a < N 0 := by rw [ha]; exact Nat.mod_lt _ (by omega)
  rw [← ha] at h3 tt ⊢
  obtain ⟨F, hF⟩ : ∃ F, F = inc (lkN N a (N 0)) 1 := ⟨_, rfl⟩
  obtain ⟨G, hG⟩ : ∃ G, G = lkD N D a (N 0) := ⟨_, rfl⟩
  have t9 : ∀ h, h < N 0 → N (12 + 10 * h + 3) ≠ 0 → 1 ≤ N (12 + 10 * h + 8) ∧ N (12 + 10 * h + 8) ≤ 8 := fun h hh q => w.t8 hh q
  have z : ∀ j, j ≠ 1 → (∀ m, m < N 0 → j ≠ 12 + 10 * m + 8) → F j = N j := fun j j1 j2 => by rw [hF, inc_ne j1]; exact lkN_ne N a j _ j2
  have z1 : F 1 = N 1 + 1 := by rw [hF, inc_eq, lkN_ne N a 1 _ (by omega)]
  have z8 : ∀ h, h < N 0 → h ≠ a → N (12 + 10 * h + 3) ≠ 0 → F (12 + 10 * h + 8) = N (12 + 10 * h + 8) + 1 := fun h hh e q => by rw [hF, inc_ne (by omega)]; exact lkN_eq N a h _ hh e q
  have z8a : F (12 + 10 * a + 8) = N (12 + 10 * a + 8) := by rw [hF, inc_ne (by omega)]; exact lkN_ne2 N a _ _ (fun m _ e _ => by omega)
  have d : ∀ x, (∀ m, m < N 0 → m ≠ a → N (12 + 10 * m + 3) ≠ 0 → x ≠ 5 + 12 * m + N (12 + 10 * m + 8)) → G x = D x := fun x hx => by rw [hG]; exact lkD_ne2 N D a x _ hx
  have f0 : F 0 = N 0 := z 0 (by omega) (by omega)
  have f2 : F 2 = N 2 := z 2 (by omega) (by omega)
  have a' : stA F = if a + 1 < N 0 then a + 1 else 0 := by
    unfold stA
    rw [z1, f0, mod_s g0]
    have : N 1 % N 0 = a := ha.symm
    rw [this]
  have ds : ∀ h, h < N 0 → h ≠ a → dst F h = dst N h + 1 := by
    intro h hh e
    unfold dst
    rw [a', f0, ← ha]
    by_cases q : a + 1 < N 0
    · rw [if_pos q]
      by_cases q2 : h < a
      · rw [if_pos q2, if_pos (by omega)]; omega
      · rw [if_neg q2, if_neg (by omega)]; omega
    · rw [if_neg q, if_neg (by omega), if_pos (by omega)]; omega
  have dsa : dst F a = 1 := by
    unfold dst
    rw [a', f0]
    by_cases q : a + 1 < N 0
    · rw [if_pos q, if_pos (by omega)]; omega
    · rw [if_neg q, if_neg (by omega)]; omega
  have hn : ∀ h k, h < 8 → k < 8 → F (12 + 10 * h + k) = N (12 + 10 * h + k) := fun h k _ _ => z _ (by omega) (by omega)
  have pn : ∀ q k, F (92 + 8 * q + k) = N (92 + 8 * q + k) := fun q k => z _ (by omega) (by omega)
  rw [← hF, ← hG]
  refine ⟨fun q hq => ?_, fun h hh => ?_, fun h hh _ => ?_, ?_, ?_, ?_⟩
  · rw [f2] at hq
    unfold WX
    rw [pn, pn, pn, pn, pn, pn, d _ (fun m hm _ q => by have := t9 m hm q; omega)]
    exact x q hq
  · rw [f0] at hh
    unfold WY
    rw [hn h 2 (by omega) (by decide), hn h 4 (by omega) (by decide), hn h 5 (by omega) (by decide), hn h 6 (by omega) (by decide), hn h 7 (by omega) (by decide), d _ (fun m hm _ q => by have := t9 m hm q; omega)]
    exact y h hh
  · rw [f0] at hh
    intro q
    rw [hn h 3 (by omega) (by decide)] at q
    by_cases e : h = a
    · subst e
      rw [z8a, dsa]; exact h3 q
    · rw [z8 h hh e q, ds h hh e, tt h hh e q]
  · rw [f2, z 4 (by omega) (by omega), ← t1]
    exact sm_same _ _ _ (fun q hq => pn q 4)
  · rw [f2, cnt_same (fun q => F (92 + 8 * q + 3)) (fun q => N (92 + 8 * q + 3)) 2 (N 2) (fun q hq => pn q 3), ← t2]
    exact sm_same _ _ _ (fun q hq => hn q 5 hq (by decide))
  · rw [f2, cnt_same (fun q => F (92 + 8 * q + 3)) (fun q => N (92 + 8 * q + 3)) 3 (N 2) (fun q hq => pn q 3), ← t3, z 10 (by omega) (by omega)]
    congr 1
    exact sm_same _ _ _ (fun q hq => hn q 6 hq (by decide))
theorem we_e1 (w : WF N D P b) (e : WE N D a) {a' : Nat} (ha : a' < N 0) : WE (e1N N D a') (e1D N D a') a := by
  unfold e1N e1D
  by_cases h3 : N (12 + 10 * a' + 3) = 0
  · rw [if_pos h3, if_pos h3]; exact e
  · rw [if_neg h3, if_neg h3]; exact we_ends w e ha (by omega) rfl
theorem we_fl (w : WF N D P b) {a' : Nat} (e : WE N D a') (ha : a' < N 0) (h3 : N (12 + 10 * a' + 3) = 0) : WE (flN N a') (flD N D a') a' := by
  unfold flN flD
  by_cases h : ff N a' 61 0 = N 11
  · rw [if_pos h, if_pos h]; exact e
  · rw [if_neg h, if_neg h]
    have := ff_le N a' 61 0 (Nat.zero_le _)
    exact we_fill w e ha h3 rfl _ (by omega) rfl
theorem we_step (w : WF N D P b) (hb : b ≤ 20480) (e : WE N D 8) : WE (stN N D) (stD N D) 8 := by
  have g0 := w.1.1
  have g8 := w.1.2.1
  have sA : stA N < N 0 := Nat.mod_lt _ (by omega)
  obtain ⟨w1, h3, j1⟩ := wf_e1 w hb sA
  obtain ⟨w2, t8, j2⟩ := wf_fl w1 (a := stA N) (by rw [j1 0 (by decide)]; exact sA) h3
  have e1 := we_e1 w (e.but g8 (stA N)) sA
  have e2 := we_fl w1 e1 (by rw [j1 0 (by decide)]; exact sA) h3
  have s2 : stA (flN (e1N N D (stA N)) (stA N)) = stA N := by
    show _ % _ = _ % _
    rw [j2 0 (by decide), j2 1 (by decide), j1 0 (by decide), j1 1 (by decide)]
  have := we_leak w2 (by rw [s2]; exact e2) (by rw [s2]; exact t8)
  rw [s2, j2 0 (by decide), j1 0 (by decide)] at this
  exact this
