/-! THE PURE PART, 5: the reference's row of those that wait, its leaks, its steps -/
variable {A M : Mem} {N : Nat → Nat} {D : Nat → UInt64}
theorem lpU {σ : Type} (W : Nat → Nat → σ → Prop) (I : Nat → σ → Prop) (e : Nat) (hx : ∀ n s, I e s → W (n + 1) e s) (hs : ∀ n i s, i < e → I i s → (∀ s', I (i + 1) s' → W n (i + 1) s') → W (n + 1) i s) : ∀ (f i : Nat) (s : σ), i ≤ e → e - i < f → I i s → W f i s := by
  intro f
  induction f with
  | zero => intro i s _ h; omega
  | succ f ih =>
    intro i s hi hf h
    by_cases q : i = e
    · rw [q] at h ⊢; exact hx f s h
    · exact hs f i s (by omega) h (fun s' h' => ih (i + 1) s' (by omega) (by omega) h')
theorem q_fillsR {K : Mem → Prop} (h k p : Nat) (hh : h < 8) (hp : p < 60) (n0 : Nat) (hn : n0 < 60) (hk : k ≤ n0) (N0 : Nat → Nat) (h11 : N0 11 = n0) (H : ∀ M', Q A M' (up (up (up (rmP N0 k n0) (92 + 8 * p + 3) 1) (12 + 10 * h + 3) (p + 1)) (12 + 10 * h + 8) 1) (up D (5 + 12 * h) (D 0)) → K M') : ∀ (f i : Nat) (M : Mem), i ≤ n0 → n0 - i < f → k ≤ i → Q A M (rmP N0 k i) D → w_X6_fills_L100 457 K f M 449 (nI h) (nI p) (nI (572 + i)) := by
  have e11 : ∀ i, rmP N0 k i 11 = n0 := fun i => by unfold rmP; rw [if_neg (by omega), h11]
  intro f
  induction f with
  | zero => intro i M _ h; omega
  | succ f ih =>
    intro i M hi hf hki q
    refine ⟨k449, q_r0 q (q_rI q 11 rfl (by decide) ?_)⟩
    rw [e11 i]
    have e1 : (572 : Int32) + nI n0 = nI (572 + n0) := ixA 572 n0
    rw [e1]
    refine pk_le (572 + n0) (572 + i) (fun z => ?_) (fun z => ?_)
    · obtain rfl : i = n0 := by omega
      exact q_put q p 3 1 hp (by decide) rfl (fun M1 q => q_r0 q (q_wI q (12 + 10 * h + 3) (p + 1) (ixH h 3) (by omega) (nI_add p 1) (fun M2 q => q_r0 q (q_wI q (12 + 10 * h + 8) 1 (ixH h 8) (by omega) rfl (fun M3 q => q_r3 q (q_r3 q (q_rD q 0 rfl (by decide) (q_wD q (5 + 12 * h) ((ixG h 2).trans (congrArg nI (by omega))) (by omega) H))))))))
    · have e2 : nI (572 + i) + (1 : Int32) = nI (572 + i + 1) := nI_1 _
      refine q_r0 q (q_r0 q (q_rI q (572 + i + 1) e2 (by omega) (q_wI q (572 + i) (N0 (572 + i + 1)) rfl (by omega) ?_ (fun M1 q x hx => ?_))))
      · unfold rmP; rw [if_neg (by omega)]
      · rw [hx, e2]
        rw [rmP_step N0 k i hki] at q
        exact ih (i + 1) M1 (by omega) (by omega) (by omega) q
theorem q_fills {K : Mem → Prop} (q : Q A M N D) (h : Nat) (hh : h < 8) (hn : N 11 ≤ 60) (hf2 : N (12 + 10 * h + 1) ≤ 2) (hl : ∀ k, k < N 11 → N (572 + k) < 60 ∧ N (92 + 8 * N (572 + k)) ≤ 1 ∧ N (92 + 8 * N (572 + k) + 6) < 2 ^ 30) (H : ∀ M', Q A M' (flN N h) (flD N D h) → K M') : w_X6_fills 457 M 449 (nI h) K := by
  obtain ⟨c0, hc0⟩ : ∃ c, c = ff N h 61 0 := ⟨_, rfl⟩
  unfold flN flD at H
  rw [← hc0] at H
  have L : ∀ (f k g : Nat), k ≤ N 11 → N 11 - k < f → N 11 - k < g → (ff N h g k = c0) → w_X6_fills_L2 457 K f M 449 (nI h) (nI k) := by
    intro f
    induction f with
    | zero => intro k g _ h; omega
    | succ f ih =>
      intro k g hk hf hg he
      have fin : ∀ (k1 : Nat), k1 = N 11 → c0 = k1 → K M := by
        intro k1 e1 e2
        rw [if_pos (by omega), if_pos (by omega)] at H
        exact H M q
      refine ⟨k449, q_r0 q (q_rI q 11 rfl (by decide) ?_)⟩
      cases g with
      | zero => omega
      | succ g =>
      unfold ff at he
      refine pk_le (N 11) k (fun z => ?_) (fun z => ?_)
      · refine q_r0 q (q_rI q 11 rfl (by decide) ?_)
        rw [if_neg (by omega)] at he
        exact cP (by rw [show k = N 11 by omega]) (fin k (by omega) he.symm)
      · obtain ⟨l1, l2, l3⟩ := hl k z
        refine q_r0 q (q_rI q (572 + k) (ixA 572 k) (by omega) ?_)
        have take : ¬ (k < N 11 ∧ ¬ el N h (N (572 + k))) → (∀ r6, r6 = gR M 449 0 → ((r6 ≤ 457 ∧ (kd r6).1 = 7 ∧ vp_in ((572 : Int32) + nI k) (kd r6).2) ∧ (∀ x7, x7 = gI M r6 (Int32.toNatClampNeg ((572 : Int32) + nI k)) → (∀ r8, r8 = gR M 449 0 → ((r8 ≤ 457 ∧ (kd r8).1 = 7 ∧ vp_in (11 : Int32) (kd r8).2) ∧ (∀ x9, x9 = gI M r8 (Int32.toNatClampNeg (11 : Int32)) → ((r8 ≤ 457 ∧ (kd r8).1 = 7 ∧ vp_in (11 : Int32) (kd r8).2) ∧ (∀ M10, M10 = sI M r8 (Int32.toNatClampNeg (11 : Int32)) (x9 - (1 : Int32)) → (∀ x11, x11 = (572 : Int32) + nI k → w_X6_fills_L100 457 K 4000 M10 449 (nI h) x7 x11))))))))) := by
          intro hc
          rw [if_neg hc] at he
          refine q_r0 q (q_rI q (572 + k) (ixA 572 k) (by omega) (q_r0 q (q_rI q 11 rfl (by decide) (q_wI q 11 (N 11 - 1) rfl (by decide) (pk_sub (b := 1) (by omega)) (fun M1 q x hx => ?_)))))
          rw [hx, show (572 : Int32) + nI k = nI (572 + k) from ixA 572 k]
          refine q_fillsR h k (N (572 + k)) hh l1 (N 11 - 1) (by omega) (by omega) (up N 11 (N 11 - 1)) (up_eq _ _ _) ?_ 4000 k M1 (by omega) (by omega) (Nat.le_refl _) (by rw [rmP_0]; exact q)
          rw [if_neg (by omega), if_neg (by omega), ← he] at H
          exact H
        refine q_takes q h (N (572 + k)) hh l1 hf2 l2 (fun t => ?_) (fun t => ?_)
        · refine cF (by decide) (q_r0 q (q_rI q (572 + k) (ixA 572 k) (by omega) (q_ofPart q _ 6 l1 (by decide) ?_)))
          by_cases e6 : N (92 + 8 * N (572 + k) + 6) = h + 1
          · refine cP (by rw [e6]; exact (nI_add h 1).symm) (fun x hx => ?_)
            rw [hx, show nI k + (1 : Int32) = nI (k + 1) from nI_1 k]
            rw [if_pos ⟨z, fun y => y.2 e6⟩] at he
            exact ih (k + 1) g (by omega) (by omega) (by omega) he
          · refine cN ?_ ?_
            · intro y
              have : nI (N (92 + 8 * N (572 + k) + 6)) = nI (h + 1) := y.trans (nI_add h 1)
              exact e6 ((nI_eq (by omega) (by omega)).mp this)
            · refine q_r0 q (q_rI q 11 rfl (by decide) (cN ?_ (take (fun y => y.2 ⟨t, e6⟩))))
              exact fun y => absurd ((nI_eq (by omega) (by omega)).mp y) (by omega)
        · refine cT rfl (fun x hx => ?_)
          rw [hx, show nI k + (1 : Int32) = nI (k + 1) from nI_1 k]
          rw [if_pos ⟨z, fun y => t y.1⟩] at he
          exact ih (k + 1) g (by omega) (by omega) (by omega) he
  exact L 4000 0 61 (by omega) (by omega) (by omega) hc0.symm
/-- the pressures leak away from the heads below a number, but for one -/
def lkN (N : Nat → Nat) (a : Nat) : Nat → Nat → Nat
  | 0 => N
  | n + 1 => if n ≠ a ∧ N (12 + 10 * n + 3) ≠ 0 then inc (lkN N a n) (12 + 10 * n + 8) else lkN N a n
def lkD (N : Nat → Nat) (D : Nat → UInt64) (a : Nat) : Nat → Nat → UInt64
  | 0 => D
  | n + 1 => if n ≠ a ∧ N (12 + 10 * n + 3) ≠ 0 then up (lkD N D a n) (5 + 12 * n + N (12 + 10 * n + 8)) (dec1 (nI (N (92 + 8 * (N (12 + 10 * n + 3) - 1) + 1))) (BY (N (92 + 8 * (N (12 + 10 * n + 3) - 1) + 2))) (D (5 + 12 * n + (N (12 + 10 * n + 8) - 1)))) else lkD N D a n
theorem lkN_ne (N : Nat → Nat) (a x : Nat) : ∀ n, (∀ m, m < n → x ≠ 12 + 10 * m + 8) → lkN N a n x = N x := by
  intro n
  induction n with
  | zero => intro _; rfl
  | succ n ih =>
    intro h
    unfold lkN
    split
    · rw [inc_ne (h n (by omega))]; exact ih (fun m hm => h m (by omega))
    · exact ih (fun m hm => h m (by omega))
theorem lkD_ge (N : Nat → Nat) (D : Nat → UInt64) (a x : Nat) : ∀ n, (∀ m, m < n → N (12 + 10 * m + 3) ≠ 0 → N (12 + 10 * m + 8) ≤ 9) → 3 + 12 * n ≤ x → lkD N D a n x = D x := by
  intro n
  induction n with
  | zero => intro _ _; rfl
  | succ n ih =>
    intro h hx
    unfold lkD
    split
    · next e =>
      have := h n (by omega) e.2
      rw [up_ne (by omega)]; exact ih (fun m hm => h m (by omega)) (by omega)
    · exact ih (fun m hm => h m (by omega)) (by omega)
/-- what a head that holds a part must keep for its pressure to leak -/
def LK (N : Nat → Nat) (D : Nat → UInt64) (h : Nat) : Prop := N (12 + 10 * h + 3) ≠ 0 → (N (12 + 10 * h + 3) ≤ 60 ∧ 1 ≤ N (12 + 10 * h + 8) ∧ PZ (D (5 + 12 * h + (N (12 + 10 * h + 8) - 1))) ∧ N (92 + 8 * (N (12 + 10 * h + 3) - 1) + 1) ≤ 99999 ∧ 1 ≤ N (92 + 8 * (N (12 + 10 * h + 3) - 1) + 2) ∧ N (92 + 8 * (N (12 + 10 * h + 3) - 1) + 2) ≤ 999)
theorem q_dec {K : UInt64 → Mem → Prop} (lk vol : Nat) (hl : lk ≤ 99999) (h1 : 1 ≤ vol) (h2 : vol ≤ 999) (p : UInt64) (hp : PZ p) (n : Nat) (hn : n < 2 ^ 30) (H : K (decn (nI lk) (BY vol) p n) M) : ∀ (f i : Nat), i ≤ n → n - i < f → w_X6_decayed_L6 457 K f M (nI lk) (BY vol) (nI n) (decn (nI lk) (BY vol) p i) (nI i) := by
  intro f
  induction f with
  | zero => intro i _ h; omega
  | succ f ih =>
    intro i hi hf
    refine pk_le n i (fun z => ?_) (fun z => ?_) rfl rfl (by omega) (by omega)
    · obtain rfl : i = n := by omega
      exact H
    · obtain ⟨g1, g2, g3, -⟩ := dec_ok (decn_ok hp hl h1 h2 i) hl h1 h2
      refine ⟨g1, fun z e => ?_⟩
      subst e
      refine ⟨g2, fun z e => ?_⟩
      subst e
      refine ⟨g3, fun z e => ?_⟩
      have hs := ih (i + 1) (by omega) (by omega)
      have ed : decn (nI lk) (BY vol) p (i + 1) = dcz z := by rw [e]; rfl
      rw [ed] at hs
      unfold dcz at hs
      refine ⟨fun y x hx => ?_, fun y x hx => ?_⟩
      · rw [if_pos y] at hs
        rw [hx, show nI i + (1 : Int32) = nI (i + 1) from nI_1 i]; exact hs
      · rw [if_neg y] at hs
        rw [hx, show nI i + (1 : Int32) = nI (i + 1) from nI_1 i]; exact hs
theorem q_leak {K : Int32 → Mem → Prop} (a e : Nat) (w : Int32) (he : N 0 = e) (h8 : e ≤ 8) (ht : ∀ h, h < e → N (12 + 10 * h + 3) ≠ 0 → N (12 + 10 * h + 8) ≤ 9) (hL : ∀ h, h < e → h ≠ a → LK N D h) (ha : a < 8) (H : ∀ M', Q A M' (inc (lkN N a e) 1) (lkD N D a e) → K w M') : ∀ (f i : Nat) (M : Mem), i ≤ e → e - i < f → Q A M (lkN N a i) (lkD N D a i) → w_X6_step_L45 457 K f M 449 (nI a) w (nI i) := by
  refine lpU (fun f i M => w_X6_step_L45 457 K f M 449 (nI a) w (nI i)) (fun i M => Q A M (lkN N a i) (lkD N D a i)) e ?_ ?_
  · intro n M q
    refine ⟨k449, q_r0 q (q_rI q 0 rfl (by decide) ?_)⟩
    rw [lkN_ne N a 0 e (by omega), he]
    refine pk_le e e (fun _ => ?_) (fun z => by omega)
    exact q_r0 q (q_inc q 1 rfl (by decide) H)
  · intro n i M hi q ih
    refine ⟨k449, q_r0 q (q_rI q 0 rfl (by decide) ?_)⟩
    rw [lkN_ne N a 0 i (by omega), he]
    refine pk_le e i (fun z => by omega) (fun _ => ?_)
    have e3 : lkN N a i (12 + 10 * i + 3) = N (12 + 10 * i + 3) := lkN_ne N a _ i (by omega)
    have e8 : lkN N a i (12 + 10 * i + 8) = N (12 + 10 * i + 8) := lkN_ne N a _ i (by omega)
    have skip : ¬ (i ≠ a ∧ N (12 + 10 * i + 3) ≠ 0) → ∀ x18, x18 = nI i + (1 : Int32) → w_X6_step_L45 457 K n M 449 (nI a) w x18 := by
      intro hc x hx
      rw [hx, show nI i + (1 : Int32) = nI (i + 1) from nI_1 i]
      refine ih M ?_
      unfold lkN lkD
      rw [if_neg hc, if_neg hc]; exact q
    by_cases h0 : N (12 + 10 * i + 3) = 0
    · refine q_partOn0 q i (by omega) (by rw [e3, h0]) ?_
      refine ⟨fun _ => skip (fun z => z.2 h0), fun _ => cT (by decide) (skip (fun z => z.2 h0))⟩
    · obtain ⟨p, hp⟩ : ∃ p, N (12 + 10 * i + 3) = p + 1 := ⟨N (12 + 10 * i + 3) - 1, by omega⟩
      refine q_partOn1 q i p (by omega) (by rw [e3, hp]) ?_
      refine pk_eq i a (fun z => skip (fun y => y.1 z)) (fun z => ?_) rfl rfl (by omega) (by omega)
      obtain ⟨l1, l2, l3, l4, l5, l6⟩ := hL i hi z h0
      have ep : N (12 + 10 * i + 3) - 1 = p := by omega
      rw [ep] at l4 l5 l6
      refine cF (nI_pos (by omega)) (q_ofHead q i 8 (by omega) (by decide) ?_)
      obtain ⟨t, et⟩ : ∃ t, N (12 + 10 * i + 8) = t + 1 := ⟨N (12 + 10 * i + 8) - 1, by omega⟩
      have t9 := ht i hi h0
      rw [e8, et]
      rw [et, Nat.add_sub_cancel] at l3
      refine q_r3 q ?_
      rw [nI_pred t]
      have pz : ∀ k, k < 8 → lkN N a i (92 + 8 * p + k) = N (92 + 8 * p + k) := fun k hk => lkN_ne N a _ i (by omega)
      have dz : lkD N D a i (5 + 12 * i + t) = D (5 + 12 * i + t) := lkD_ge N D a _ i (fun m hm => ht m (by omega)) (by omega)
      refine q_traced q i t (by omega) (by omega) (q_ofPart q p 1 (by omega) (by decide) (q_ofPart q p 2 (by omega) (by decide) ?_))
      rw [pz 1 (by decide), pz 2 (by decide), dz]
      refine ⟨by_ok l5 l6, fun z29 h29 => ?_⟩
      rw [h29]
      refine q_dec _ _ l4 l5 l6 _ l3 1 (by decide) ?_ 4000 0 (by decide) (by decide)
      refine q_wD q (5 + 12 * i + (t + 1)) (ixT i (t + 1)) (by omega) (fun M1 q => q_more q i 8 (by omega) (by decide) (fun M2 q x hx => ?_))
      rw [hx, show nI i + (1 : Int32) = nI (i + 1) from nI_1 i]
      refine ih M2 ?_
      unfold lkN lkD
      rw [if_pos ⟨z, h0⟩, if_pos ⟨z, h0⟩, et, ep, Nat.add_sub_cancel]
      exact q
