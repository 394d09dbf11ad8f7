/-! THE PURE PART, 15: what the numbers of a state keep -/
variable {h p t b b' : Nat} {N N' P P' : Nat → Nat} {D D' : Nat → UInt64}
def cnt (f : Nat → Nat) (s : Nat) : Nat → Nat
  | 0 => 0
  | n + 1 => cnt f s n + (if f n = s then 1 else 0)
def sm (f : Nat → Nat) : Nat → Nat
  | 0 => 0
  | n + 1 => sm f n + f n
theorem cS_cnt (N : Nat → Nat) (s : Nat) : ∀ n, cS N s n = cnt (fun q => N (92 + 8 * q + 3)) s n := by
  intro n
  induction n with
  | zero => rfl
  | succ n ih => unfold cS cnt; rw [ih]
theorem cnt_same (f g : Nat → Nat) (s : Nat) : ∀ n, (∀ q, q < n → f q = g q) → cnt f s n = cnt g s n := by
  intro n
  induction n with
  | zero => intro _; rfl
  | succ n ih =>
    intro h
    unfold cnt
    rw [ih (fun q hq => h q (by omega)), h n (by omega)]
theorem cnt_upd (f g : Nat → Nat) (s p : Nat) : ∀ n, p < n → (∀ q, q < n → q ≠ p → g q = f q) → cnt g s n + (if f p = s then 1 else 0) = cnt f s n + (if g p = s then 1 else 0) := by
  intro n
  induction n with
  | zero => intro h; omega
  | succ n ih =>
    intro hp h
    unfold cnt
    by_cases e : p = n
    · subst e
      rw [cnt_same g f s p (fun q hq => h q (by omega) (by omega))]
      omega
    · rw [h n (by omega) (by omega)]
      have := ih (by omega) (fun q hq => h q (by omega))
      omega
theorem sm_same (f g : Nat → Nat) : ∀ n, (∀ q, q < n → f q = g q) → sm f n = sm g n := by
  intro n
  induction n with
  | zero => intro _; rfl
  | succ n ih =>
    intro h
    unfold sm
    rw [ih (fun q hq => h q (by omega)), h n (by omega)]
theorem sm_upd (f g : Nat → Nat) (p : Nat) : ∀ n, p < n → (∀ q, q < n → q ≠ p → g q = f q) → sm g n + f p = sm f n + g p := by
  intro n
  induction n with
  | zero => intro h; omega
  | succ n ih =>
    intro hp h
    unfold sm
    by_cases e : p = n
    · subst e
      rw [sm_same g f p (fun q hq => h q (by omega) (by omega))]
      omega
    · rw [h n (by omega) (by omega)]
      have := ih (by omega) (fun q hq => h q (by omega))
      omega
theorem cH_same (N N' : Nat → Nat) : ∀ n, (∀ q, q < n → N' (12 + 10 * q + 3) = N (12 + 10 * q + 3)) → cH N' n = cH N n := by
  intro n
  induction n with
  | zero => intro _; rfl
  | succ n ih =>
    intro h
    unfold cH
    rw [ih (fun q hq => h q (by omega)), h n (by omega)]
theorem cH_upd (N N' : Nat → Nat) (p : Nat) : ∀ n, p < n → (∀ q, q < n → q ≠ p → N' (12 + 10 * q + 3) = N (12 + 10 * q + 3)) → cH N' n + (if N (12 + 10 * p + 3) = 0 then 0 else 1) = cH N n + (if N' (12 + 10 * p + 3) = 0 then 0 else 1) := by
  intro n
  induction n with
  | zero => intro h; omega
  | succ n ih =>
    intro hp h
    unfold cH
    by_cases e : p = n
    · subst e
      rw [cH_same N N' p (fun q hq => h q (by omega) (by omega))]
      omega
    · rw [h n (by omega) (by omega)]
      have := ih (by omega) (fun q hq => h q (by omega))
      omega
theorem cnt_le2 (f : Nat → Nat) (s u : Nat) (hsu : s ≠ u) : ∀ n, cnt f s n + cnt f u n ≤ n := by
  intro n
  induction n with
  | zero => exact Nat.le_refl _
  | succ n ih =>
    unfold cnt
    by_cases e : f n = s
    · rw [if_pos e, if_neg (by omega)]; omega
    · rw [if_neg e]
      split <;> omega
theorem cH_pos (N : Nat → Nat) (h : Nat) : ∀ n, h < n → N (12 + 10 * h + 3) ≠ 0 → 1 ≤ cH N n := by
  intro n
  induction n with
  | zero => intro h; omega
  | succ n ih =>
    intro hn h3
    unfold cH
    by_cases e : h = n
    · subst e; rw [if_neg h3]; omega
    · have := ih (by omega) h3; omega
def WG (N : Nat → Nat) (b : Nat) : Prop := 2 ≤ N 0 ∧ N 0 ≤ 8 ∧ N 1 ≤ b ∧ N 2 ≤ 60 ∧ 1 ≤ N 3 ∧ N 3 ≤ 99 ∧ N 4 ≤ b ∧ N 5 ≤ b
def WR (D : Nat → UInt64) : Prop := PZ (D 0) ∧ 4607182418800017408 ≤ (D 0).toNat ∧ (D 1).toNat ≤ 4696837146684686336 ∧ (D 2).toNat ≤ 4696837146684686336
def WH (N : Nat → Nat) (D : Nat → UInt64) (b h : Nat) : Prop := N (12 + 10 * h + 0) ≤ 1000 ∧ N (12 + 10 * h + 1) ≤ 2 ∧ N (12 + 10 * h + 2) ≤ b ∧ N (12 + 10 * h + 4) ≤ b ∧ N (12 + 10 * h + 5) ≤ b ∧ N (12 + 10 * h + 6) ≤ b ∧ N (12 + 10 * h + 7) ≤ b ∧ GR (N (12 + 10 * h + 4)) (D (3 + 12 * h)) ∧ FR (D (4 + 12 * h))
/-- how many steps ago a head was at the station -/
def dst (N : Nat → Nat) (h : Nat) : Nat := if h < stA N then stA N - h else stA N + N 0 - h
def WO (N : Nat → Nat) (D : Nat → UInt64) (h : Nat) : Prop := N (12 + 10 * h + 3) ≠ 0 → N (12 + 10 * h + 3) ≤ N 2 ∧ N (92 + 8 * (N (12 + 10 * h + 3) - 1) + 3) = 1 ∧ 1 ≤ N (12 + 10 * h + 8) ∧ N (12 + 10 * h + 8) ≤ dst N h ∧ (∀ k, k < N (12 + 10 * h + 8) → PZ (D (5 + 12 * h + k))) ∧ ∀ k, k + 1 < N (12 + 10 * h + 8) → D (5 + 12 * h + (k + 1)) = dec1 (nI (N (92 + 8 * (N (12 + 10 * h + 3) - 1) + 1))) (BY (N (92 + 8 * (N (12 + 10 * h + 3) - 1) + 2))) (D (5 + 12 * h + k))
def WZ (N : Nat → Nat) : Prop := ∀ h, N 0 ≤ h → h < 8 → ∀ k, k < 10 → N (12 + 10 * h + k) = 0
def WD (N : Nat → Nat) : Prop := ∀ h h', h < N 0 → h' < N 0 → N (12 + 10 * h + 3) ≠ 0 → N (12 + 10 * h + 3) = N (12 + 10 * h' + 3) → h = h'
def WQ (N : Nat → Nat) (b p : Nat) : Prop := N (92 + 8 * p + 0) ≤ 1 ∧ N (92 + 8 * p + 1) ≤ 99999 ∧ 1 ≤ N (92 + 8 * p + 2) ∧ N (92 + 8 * p + 2) ≤ 999 ∧ N (92 + 8 * p + 3) ≤ 3 ∧ N (92 + 8 * p + 4) ≤ b ∧ N (92 + 8 * p + 5) ≤ 2 ∧ N (92 + 8 * p + 6) ≤ 8 ∧ N (92 + 8 * p + 7) ≤ 5 ∧ (N (92 + 8 * p + 3) ≠ 3 → N (92 + 8 * p + 7) = 0)
def WC (N : Nat → Nat) : Prop := cS N 0 (N 2) = N 11 ∧ cS N 1 (N 2) = cH N (N 0) ∧ (∀ e, 1 ≤ e → e ≤ 5 → cnt (fun q => N (92 + 8 * q + 7)) e (N 2) = N (5 + e)) ∧ sm (fun h => N (12 + 10 * h + 4)) 8 = N 4 ∧ sm (fun h => N (12 + 10 * h + 7)) 8 = N 5
def WF (N : Nat → Nat) (D : Nat → UInt64) (P : Nat → Nat) (b : Nat) : Prop := WG N b ∧ WR D ∧ (∀ h, h < N 0 → WH N D b h) ∧ (∀ h, h < N 0 → WO N D h) ∧ WZ N ∧ WD N ∧ (∀ p, p < N 2 → WQ N b p) ∧ LN N P ∧ WC N
theorem dst_le (h0 : 2 ≤ N 0) (hh : h < N 0) : dst N h ≤ N 0 := by
  have ha : stA N < N 0 := Nat.mod_lt _ (by omega)
  unfold dst
  split <;> omega
theorem WF.t8 (w : WF N D P b) (hh : h < N 0) (h3 : N (12 + 10 * h + 3) ≠ 0) : 1 ≤ N (12 + 10 * h + 8) ∧ N (12 + 10 * h + 8) ≤ 8 := by
  obtain ⟨⟨g0, g8, -⟩, -, -, wo, -⟩ := w
  obtain ⟨o1, o2, o3, o4, -⟩ := wo h hh h3
  have := dst_le (N := N) g0 hh
  omega
theorem WF.n11 (w : WF N D P b) (hh : h < N 0) (h3 : N (12 + 10 * h + 3) ≠ 0) : N 11 < 60 := by
  obtain ⟨⟨g0, g8, g1, g2, -⟩, -, -, wo, -, -, -, -, ⟨c0, c1, -⟩⟩ := w
  have a := cH_pos N h (N 0) hh h3
  have b := cnt_le2 (fun q => N (92 + 8 * q + 3)) 0 1 (by decide) (N 2)
  rw [cS_cnt] at c0 c1
  omega
/-- one head and one part change -/
theorem wf_upd (w : WF N D P b) (bb : b ≤ b') (hh : h < N 0) (hp : p < N 2)
    (n1 : ∀ j, j ≤ 3 → N' j = N j) (n2 : ∀ h', h' < 8 → h' ≠ h → ∀ k, k < 10 → N' (12 + 10 * h' + k) = N (12 + 10 * h' + k)) (n3 : ∀ q, q < 60 → q ≠ p → ∀ k, k < 8 → N' (92 + 8 * q + k) = N (92 + 8 * q + k))
    (d1 : ∀ j, j < 3 → D' j = D j) (d2 : ∀ h', h' < 8 → h' ≠ h → ∀ k, k < 12 → D' (3 + 12 * h' + k) = D (3 + 12 * h' + k))
    (g4 : N' 4 ≤ b') (g5 : N' 5 ≤ b') (hH : WH N' D' b' h) (hO : WO N' D' h) (hne : ∀ h', h' < N 0 → h' ≠ h → N (12 + 10 * h' + 3) ≠ p + 1) (hD : N' (12 + 10 * h + 3) = 0 ∨ N' (12 + 10 * h + 3) = p + 1)
    (hQ : WQ N' b' p) (hL : LN N' P') (c0 : N' 11 + (if N (92 + 8 * p + 3) = 0 then 1 else 0) = N 11 + (if N' (92 + 8 * p + 3) = 0 then 1 else 0))
    (c1 : (if N (92 + 8 * p + 3) = 1 then 1 else 0) + (if N' (12 + 10 * h + 3) = 0 then 0 else 1) = (if N' (92 + 8 * p + 3) = 1 then 1 else 0) + (if N (12 + 10 * h + 3) = 0 then 0 else 1))
    (c2 : ∀ e, 1 ≤ e → e ≤ 5 → N' (5 + e) + (if N (92 + 8 * p + 7) = e then 1 else 0) = N (5 + e) + (if N' (92 + 8 * p + 7) = e then 1 else 0))
    (c3 : N' 4 + N (12 + 10 * h + 4) = N 4 + N' (12 + 10 * h + 4)) (c4 : N' 5 + N (12 + 10 * h + 7) = N 5 + N' (12 + 10 * h + 7)) : WF N' D' P' b' := by
  obtain ⟨⟨g0, g8, g1, g2, g31, g3, g4', g5'⟩, ⟨r1, r2, r3, r4⟩, wh, wo, wz, wd, wq, L, ⟨k0, k1, k2, k3, k4⟩⟩ := w
  have z0 := n1 0 (by decide)
  have z1 := n1 1 (by decide)
  have z2 := n1 2 (by decide)
  have z3 := n1 3 (by decide)
  have sA : stA N' = stA N := by unfold stA; rw [z0, z1]
  have dS : ∀ h, dst N' h = dst N h := fun h => by unfold dst; rw [sA, z0]
  refine ⟨⟨by omega, by omega, by omega, by omega, by omega, by omega, g4, g5⟩, ⟨by rw [d1 0 (by decide)]; exact r1, by rw [d1 0 (by decide)]; exact r2, by rw [d1 1 (by decide)]; exact r3, by rw [d1 2 (by decide)]; exact r4⟩, ?_, ?_, ?_, ?_, ?_, hL, ?_⟩
  · intro h' hh'
    rw [z0] at hh'
    by_cases e : h' = h
    · rw [e]; exact hH
    · have hn := n2 h' (by omega) e
      obtain ⟨a0, a1, a2, a3, a4, a5, a6, a7, a8⟩ := wh h' hh'
      have e0 := d2 h' (by omega) e 0 (by decide)
      have e1 := d2 h' (by omega) e 1 (by decide)
      unfold WH
      rw [hn 0 (by decide), hn 1 (by decide), hn 2 (by decide), hn 4 (by decide), hn 5 (by decide), hn 6 (by decide), hn 7 (by decide)]
      refine ⟨a0, a1, by omega, by omega, by omega, by omega, by omega, ?_, ?_⟩
      · rw [show D' (3 + 12 * h') = D (3 + 12 * h') from e0]; exact a7
      · rw [show 4 + 12 * h' = 3 + 12 * h' + 1 by omega, e1, show 3 + 12 * h' + 1 = 4 + 12 * h' by omega]; exact a8
  · intro h' hh'
    rw [z0] at hh'
    by_cases e : h' = h
    · rw [e]; exact hO
    · have hn := n2 h' (by omega) e
      have ho := wo h' hh'
      intro q
      rw [hn 3 (by decide)] at q
      obtain ⟨o1, o2, o3, o4, o5, o6⟩ := ho q
      have op : N (12 + 10 * h' + 3) - 1 ≠ p := by have := hne h' hh' e; omega
      have m3 := n3 (N (12 + 10 * h' + 3) - 1) (by omega) op
      have t8 := dst_le (N := N) g0 hh'
      have dd : ∀ k, k < 10 → D' (5 + 12 * h' + k) = D (5 + 12 * h' + k) := fun k hk => by
        have := d2 h' (by omega) e (2 + k) (by omega)
        rw [show 3 + 12 * h' + (2 + k) = 5 + 12 * h' + k by omega] at this
        exact this
      rw [hn 3 (by decide), hn 8 (by decide), z2, m3 3 (by decide), m3 1 (by decide), m3 2 (by decide), dS]
      refine ⟨o1, o2, o3, o4, fun k hk => by rw [dd k (by omega)]; exact o5 k hk, fun k hk => by rw [dd k (by omega), dd (k + 1) (by omega)]; exact o6 k hk⟩
  · intro h' h1 h2 k hk
    rw [z0] at h1
    rw [n2 h' h2 (by omega) k hk]
    exact wz h' h1 h2 k hk
  · intro h1 h2 q1 q2 q3 q4
    rw [z0] at q1 q2
    by_cases e1 : h1 = h
    · by_cases e2 : h2 = h
      · omega
      · rw [n2 h2 (by omega) e2 3 (by decide)] at q4
        have := hne h2 q2 e2
        rw [e1] at q3 q4
        omega
    · rw [n2 h1 (by omega) e1 3 (by decide)] at q3 q4
      by_cases e2 : h2 = h
      · have := hne h1 q1 e1
        rw [e2] at q4
        omega
      · rw [n2 h2 (by omega) e2 3 (by decide)] at q4
        exact wd h1 h2 q1 q2 q3 q4
  · intro q hq
    rw [z2] at hq
    by_cases e : q = p
    · rw [e]; exact hQ
    · have m := n3 q (by omega) e
      obtain ⟨a0, a1, a2, a3, a4, a5, a6, a7, a8, a9⟩ := wq q hq
      unfold WQ
      rw [m 0 (by decide), m 1 (by decide), m 2 (by decide), m 3 (by decide), m 4 (by decide), m 5 (by decide), m 6 (by decide), m 7 (by decide)]
      exact ⟨a0, a1, a2, a3, a4, by omega, a6, a7, a8, a9⟩
  · rw [cS_cnt] at k0 k1
    have u0 := cnt_upd (fun q => N (92 + 8 * q + 3)) (fun q => N' (92 + 8 * q + 3)) 0 p (N 2) hp (fun q hq e => n3 q (by omega) e 3 (by decide))
    have u1 := cnt_upd (fun q => N (92 + 8 * q + 3)) (fun q => N' (92 + 8 * q + 3)) 1 p (N 2) hp (fun q hq e => n3 q (by omega) e 3 (by decide))
    have u2 := cH_upd N N' h (N 0) hh (fun q hq e => n2 q (by omega) e 3 (by decide))
    have u3 := sm_upd (fun h => N (12 + 10 * h + 4)) (fun h => N' (12 + 10 * h + 4)) h 8 (by omega) (fun q hq e => n2 q hq e 4 (by decide))
    have u4 := sm_upd (fun h => N (12 + 10 * h + 7)) (fun h => N' (12 + 10 * h + 7)) h 8 (by omega) (fun q hq e => n2 q hq e 7 (by decide))
    unfold WC
    rw [cS_cnt, cS_cnt, z2, z0]
    refine ⟨by omega, by omega, fun e e1 e5 => ?_, by omega, by omega⟩
    have u5 := cnt_upd (fun q => N (92 + 8 * q + 7)) (fun q => N' (92 + 8 * q + 7)) e p (N 2) hp (fun q hq e => n3 q (by omega) e 7 (by decide))
    have := k2 e e1 e5
    have := c2 e e1 e5
    omega
theorem LN_keep (L : LN N P) (h60 : N 2 ≤ 60) (hp : p < N 2) (n2 : N' 2 = N 2) (n11 : N' 11 = N 11) (ln : ∀ k, k < N 11 → N' (572 + k) = N (572 + k)) (st : ∀ q, q < N 2 → q ≠ p → N' (92 + 8 * q + 3) = N (92 + 8 * q + 3)) (s1 : N (92 + 8 * p + 3) ≠ 0) (s2 : N' (92 + 8 * p + 3) ≠ 0) : LN N' P := by
  obtain ⟨L0, L1, L2⟩ := L
  refine ⟨by omega, fun k hk => ?_, fun q hq hs => ?_⟩
  · rw [n11] at hk
    obtain ⟨a, b, c⟩ := L1 k hk
    have e : N (572 + k) ≠ p := fun e => s1 (by rw [← e]; exact b)
    rw [ln k hk, n2, st _ a e]
    exact ⟨a, b, c⟩
  · rw [n2] at hq
    have e : q ≠ p := fun e => s2 (by rw [← e]; exact hs)
    rw [st q hq e] at hs
    obtain ⟨a, b⟩ := L2 q hq hs
    rw [n11, ln _ a]
    exact ⟨a, b⟩
theorem LN_front (L : LN N P) (h60 : N 11 < 60) (hp : p < N 2) (n2 : N' 2 = N 2) (n11 : N' 11 = N 11 + 1) (l0 : N' 572 = p) (ln : ∀ k, k < N 11 → N' (572 + (k + 1)) = N (572 + k)) (st : ∀ q, q < N 2 → q ≠ p → N' (92 + 8 * q + 3) = N (92 + 8 * q + 3)) (s1 : N (92 + 8 * p + 3) ≠ 0) (s2 : N' (92 + 8 * p + 3) = 0) : LN N' (fun q => if q = p then 0 else P q + 1) := by
  obtain ⟨L0, L1, L2⟩ := L
  refine ⟨by omega, fun k hk => ?_, fun q hq hs => ?_⟩
  · rw [n11] at hk
    cases k with
    | zero =>
      rw [show 572 + 0 = 572 from rfl, l0, n2]
      exact ⟨hp, s2, if_pos rfl⟩
    | succ k =>
      obtain ⟨a, b, c⟩ := L1 k (by omega)
      have e : N (572 + k) ≠ p := fun e => s1 (by rw [← e]; exact b)
      rw [ln k (by omega), n2, st _ a e]
      exact ⟨a, b, by dsimp only; rw [if_neg e, c]⟩
  · rw [n2] at hq
    dsimp only
    by_cases e : q = p
    · rw [if_pos e, n11]; exact ⟨by omega, by rw [show 572 + 0 = 572 from rfl, l0, e]⟩
    · rw [st q hq e] at hs
      obtain ⟨a, b⟩ := L2 q hq hs
      rw [if_neg e, n11, ln _ a]
      exact ⟨by omega, b⟩
theorem LN_rm (L : LN N P) (k0 : Nat) (hk0 : k0 < N 11) (hp : N (572 + k0) = p) (n2 : N' 2 = N 2) (n11 : N' 11 = N 11 - 1) (ln1 : ∀ k, k < k0 → N' (572 + k) = N (572 + k)) (ln2 : ∀ k, k0 ≤ k → k < N 11 - 1 → N' (572 + k) = N (572 + (k + 1))) (st : ∀ q, q < N 2 → q ≠ p → N' (92 + 8 * q + 3) = N (92 + 8 * q + 3)) (s2 : N' (92 + 8 * p + 3) ≠ 0) : LN N' (fiP P k0) := by
  obtain ⟨L0, L1, L2⟩ := L
  have pp := (L1 k0 hk0).2.2
  rw [hp] at pp
  refine ⟨by omega, fun k hk => ?_, fun q hq hs => ?_⟩
  · rw [n11] at hk
    by_cases z : k < k0
    · obtain ⟨a, b, c⟩ := L1 k (by omega)
      have e : N (572 + k) ≠ p := fun e => by rw [e, pp] at c; omega
      rw [ln1 k z, n2, st _ a e]
      refine ⟨a, b, ?_⟩
      unfold fiP
      rw [c, if_neg (by omega)]
    · obtain ⟨a, b, c⟩ := L1 (k + 1) (by omega)
      have e : N (572 + (k + 1)) ≠ p := fun e => by rw [e, pp] at c; omega
      rw [ln2 k (by omega) hk, n2, st _ a e]
      refine ⟨a, b, ?_⟩
      unfold fiP
      rw [c, if_pos (by omega), Nat.add_sub_cancel]
  · rw [n2] at hq
    have e : q ≠ p := fun e => s2 (by rw [← e]; exact hs)
    rw [st q hq e] at hs
    obtain ⟨a, b⟩ := L2 q hq hs
    have ne : P q ≠ k0 := fun z => by rw [z, hp] at b; exact e b.symm
    unfold fiP
    rw [n11]
    by_cases z : k0 < P q
    · rw [if_pos z, ln2 _ (by omega) (by omega), show P q - 1 + 1 = P q by omega]
      exact ⟨by omega, b⟩
    · rw [if_neg z, ln1 _ (by omega)]
      exact ⟨by omega, b⟩

