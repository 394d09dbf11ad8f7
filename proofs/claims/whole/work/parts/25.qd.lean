/-! THE PURE PART, 6: the reference's steps, its loops over parts and heads -/
variable {A M : Mem} {N : Nat → Nat} {D : Nat → UInt64}
def e1N (N : Nat → Nat) (D : Nat → UInt64) (a : Nat) : Nat → Nat := if N (12 + 10 * a + 3) = 0 then N else enN N D a (N (12 + 10 * a + 3) - 1) (N (12 + 10 * a + 8) - 1)
def e1D (N : Nat → Nat) (D : Nat → UInt64) (a : Nat) : Nat → UInt64 := if N (12 + 10 * a + 3) = 0 then D else enD N D a (N (12 + 10 * a + 3) - 1) (N (12 + 10 * a + 8) - 1)
def e2N (N : Nat → Nat) (D : Nat → UInt64) (a : Nat) : Nat → Nat := flN (e1N N D a) a
def e2D (N : Nat → Nat) (D : Nat → UInt64) (a : Nat) : Nat → UInt64 := flD (e1N N D a) (e1D N D a) a
def stA (N : Nat → Nat) : Nat := N 1 % N 0
def stN (N : Nat → Nat) (D : Nat → UInt64) : Nat → Nat := inc (lkN (e2N N D (stA N)) (stA N) (N 0)) 1
def stD (N : Nat → Nat) (D : Nat → UInt64) : Nat → UInt64 := lkD (e2N N D (stA N)) (e2D N D (stA N)) (stA N) (N 0)
def stE (N : Nat → Nat) : Nat := if N (12 + 10 * stA N + 3) = 0 then 0 else 1
/-- what a test's end asks of a head -/
def EK (N : Nat → Nat) (D : Nat → UInt64) (h : Nat) : Prop := N (12 + 10 * h + 3) ≠ 0 → (N (12 + 10 * h + 3) ≤ 60 ∧ 1 ≤ N (12 + 10 * h + 8) ∧ N (12 + 10 * h + 8) ≤ 8 ∧ PZ (D (5 + 12 * h + 0)) ∧ PZ (D (5 + 12 * h + (N (12 + 10 * h + 8) - 1))) ∧ N (92 + 8 * (N (12 + 10 * h + 3) - 1) + 2) ≤ 999 ∧ (∃ m, m ≤ 20480 ∧ GR m (D (3 + 12 * h))) ∧ FR (D (4 + 12 * h)) ∧ N (12 + 10 * h + 0) ≤ 1000 ∧ N (12 + 10 * h + 2) < 2 ^ 30 ∧ N 3 < 2 ^ 30 ∧ N (92 + 8 * (N (12 + 10 * h + 3) - 1) + 5) < 2 ^ 30 ∧ N 11 < 60)
def FK (N : Nat → Nat) (h : Nat) : Prop := N 11 ≤ 60 ∧ N (12 + 10 * h + 1) ≤ 2 ∧ ∀ k, k < N 11 → N (572 + k) < 60 ∧ N (92 + 8 * N (572 + k)) ≤ 1 ∧ N (92 + 8 * N (572 + k) + 6) < 2 ^ 30
def ST (N : Nat → Nat) (D : Nat → UInt64) : Prop := 2 ≤ N 0 ∧ N 0 ≤ 8 ∧ N 1 < 2 ^ 30 ∧ EK N D (stA N) ∧ FK (e1N N D (stA N)) (stA N) ∧ e2N N D (stA N) 0 = N 0 ∧ (∀ h, h < N 0 → e2N N D (stA N) (12 + 10 * h + 3) ≠ 0 → e2N N D (stA N) (12 + 10 * h + 8) ≤ 9) ∧ ∀ h, h < N 0 → h ≠ stA N → LK (e2N N D (stA N)) (e2D N D (stA N)) h
theorem q_step {K : Int32 → Mem → Prop} (q : Q A M N D) (S : ST N D) (H : ∀ M', Q A M' (stN N D) (stD N D) → K (nI (stE N)) M') : w_X6_step 457 M 449 K := by
  obtain ⟨h2, h8, b1, E, F, e0, T, L⟩ := S
  have ha : stA N < N 0 := Nat.mod_lt _ (by omega)
  refine ⟨k449, q_r0 q (q_rI q 1 rfl (by decide) (q_r0 q (q_rI q 0 rfl (by decide) ⟨fun z => ?_, fun x6 hx => ?_⟩)))⟩
  · exact absurd ((nI_eq (b := 0) (by omega) (by decide)).mp z) (by omega)
  rw [pk_rem (by omega) (by omega) (by omega)] at hx
  have hx : x6 = nI (stA N) := hx
  rw [hx]
  have lk0 : lkN (e2N N D (stA N)) (stA N) 0 = e2N N D (stA N) := rfl
  have ld0 : lkD (e2N N D (stA N)) (e2D N D (stA N)) (stA N) 0 = e2D N D (stA N) := rfl
  have tail : ∀ (M' : Mem) (w : Int32), w = nI (stE N) → Q A M' (e1N N D (stA N)) (e1D N D (stA N)) → w_X6_fills 457 M' 449 (nI (stA N)) (fun M9 => w_X6_step_L45 457 K 4000 M9 449 (nI (stA N)) w (0 : Int32)) := by
    intro M' w hw q
    refine q_fills q (stA N) (by omega) F.1 F.2.1 F.2.2 (fun M9 q => ?_)
    exact q_leak (N := e2N N D (stA N)) (D := e2D N D (stA N)) (stA N) (N 0) w e0 h8 T L (by omega) (fun M' q => by rw [hw]; exact H M' q) 4000 0 M9 (by omega) (by omega) (by rw [lk0, ld0]; exact q)
  by_cases z : N (12 + 10 * stA N + 3) = 0
  · refine q_partOn0 q (stA N) (by omega) z (cT (by decide) (tail M 0 ?_ ?_))
    · unfold stE; rw [if_pos z]; rfl
    · unfold e1N e1D; rw [if_pos z, if_pos z]; exact q
  · obtain ⟨p, hp⟩ : ∃ p, N (12 + 10 * stA N + 3) = p + 1 := ⟨N (12 + 10 * stA N + 3) - 1, by omega⟩
    obtain ⟨l1, l2, l3, l4, l5, l6, ⟨m, l7, l8⟩, l9, l10, l11, l12, l13, l14⟩ := E z
    obtain ⟨t, et⟩ : ∃ t, N (12 + 10 * stA N + 8) = t + 1 := ⟨N (12 + 10 * stA N + 8) - 1, by omega⟩
    have ep : N (12 + 10 * stA N + 3) - 1 = p := by omega
    have et1 : N (12 + 10 * stA N + 8) - 1 = t := by omega
    rw [ep] at l6 l13
    rw [et1] at l5
    refine q_partOn1 q (stA N) p (by omega) hp (cF (nI_pos (by omega)) ?_)
    refine q_ends q (stA N) p t m (by omega) (by omega) (by omega) h2 h8 hp et l4 l5 l6 l8 l7 l9 l10 l11 l12 l13 l14 (fun M' q => tail M' 1 ?_ ?_)
    · unfold stE; rw [if_neg z]; rfl
    · unfold e1N e1D; rw [if_neg z, if_neg z, ep, et1]; exact q
def itS (N : Nat → Nat) (D : Nat → UInt64) : Nat → (Nat → Nat) × (Nat → UInt64) × Nat
  | 0 => (N, D, 0)
  | n + 1 => (stN (itS N D n).1 (itS N D n).2.1, stD (itS N D n).1 (itS N D n).2.1, (itS N D n).2.2 + stE (itS N D n).1)
theorem q_goes {K : Int32 → Mem → Prop} (q : Q A M N D) (n : Nat) (hn : n ≤ 40) (S : ∀ i, i < n → ST (itS N D i).1 (itS N D i).2.1) (H : ∀ M', Q A M' (itS N D n).1 (itS N D n).2.1 → K (nI (itS N D n).2.2) M') : w_X6_goes 457 M 449 (nI n) K := by
  refine lpU (fun f i M => w_X6_goes_L4 457 K f M 449 (nI n) (nI (itS N D i).2.2) (nI i)) (fun i M => Q A M (itS N D i).1 (itS N D i).2.1) n ?_ ?_ 4000 0 M (by omega) (by omega) q
  · intro f M q
    exact pk_le n n (fun _ => H M q) (fun z => by omega)
  · intro f i M hi q ih
    refine pk_le n i (fun z => by omega) (fun _ => ⟨k449, q_step q (S i hi) (fun M' q x4 h4 x5 h5 => ?_)⟩)
    rw [h4, h5, nI_add, show nI i + (1 : Int32) = nI (i + 1) from nI_1 i]
    exact ih M' q
def spN (N : Nat → Nat) : Nat → Nat → Nat
  | 0 => N
  | i + 1 => rjN (spN N i) (N (572 + i)) 5
theorem spN_ln (N : Nat → Nat) (j : Nat) : ∀ i, (∀ k, k < i → N (572 + k) < 60) → 572 ≤ j → spN N i j = N j := by
  intro i
  induction i with
  | zero => intro _ _; rfl
  | succ i ih =>
    intro h hj
    have := h i (by omega)
    unfold spN rjN
    rw [inc_ne (by omega), up_ne (by omega), up_ne (by omega)]
    exact ih (fun k hk => h k (by omega)) hj
theorem q_stops {K : Int32 → Mem → Prop} (q : Q A M N D) (n : Nat) (hn : n ≤ 60) (hl : ∀ k, k < n → N (572 + k) < 60) (H : ∀ M', Q A M' (up (spN N n) 11 0) D → K (nI n) M') : w_X6_stops_L21 457 K 4000 M 449 (nI n) 0 := by
  refine lpU (fun f i M => w_X6_stops_L21 457 K f M 449 (nI n) (nI i)) (fun i M => Q A M (spN N i) D) n ?_ ?_ 4000 0 M (by omega) (by omega) q
  · intro f M q
    refine pk_le n n (fun _ => ⟨k449, q_r0 q (q_wI q 11 0 rfl (by decide) rfl H)⟩) (fun z => by omega)
  · intro f i M hi q ih
    refine pk_le n i (fun z => by omega) (fun _ => ⟨k449, q_r0 q (q_rI q (572 + i) (ixA 572 i) (by omega) ?_)⟩)
    rw [spN_ln N (572 + i) i (fun k hk => hl k (by omega)) (by omega)]
    refine q_rejects q (N (572 + i)) 5 (hl i hi) (by decide) (fun M' q x hx => ?_)
    rw [hx, show nI i + (1 : Int32) = nI (i + 1) from nI_1 i]
    exact ih M' q
/-- parts go back to the row's front, from the highest head on -/
def clN (N : Nat → Nat) (e : Nat) : Nat → Nat → Nat
  | 0 => N
  | d + 1 => if N (12 + 10 * (e - 1 - d) + 3) = 0 then clN N e d else up (tfN (clN N e d) (N (12 + 10 * (e - 1 - d) + 3) - 1)) (12 + 10 * (e - 1 - d) + 3) 0
theorem clN_hd (N : Nat → Nat) (e h k : Nat) (hh : h < 8) (hk : k < 10) : ∀ d, h + d < e → (∀ h, h < e → N (12 + 10 * h + 3) ≤ 60) → clN N e d (12 + 10 * h + k) = N (12 + 10 * h + k) := by
  intro d
  induction d with
  | zero => intro _ _; rfl
  | succ d ih =>
    intro hd hp
    unfold clN
    split
    · exact ih (by omega) hp
    · have := hp (e - 1 - d) (by omega)
      rw [up_ne (by omega)]
      unfold tfN
      rw [up_ne (by omega), inc_ne (by omega), up_ne (by omega)]
      unfold shN
      rw [if_neg (by omega)]
      exact ih (by omega) hp
theorem q_clears {K : Int32 → Mem → Prop} (w : Int32) (e : Nat) (he : e ≤ 8) (hp : ∀ h, h < e → N (12 + 10 * h + 3) ≤ 60) (h11 : ∀ d, d < e → N (12 + 10 * (e - 1 - d) + 3) ≠ 0 → clN N e d 11 < 60) (H : ∀ M', Q A M' (clN N e e) D → K w M') : ∀ (f i d : Nat) (M : Mem), i + d = e → i < f → Q A M (clN N e d) D → w_X6_clears_L25 457 K f M 449 w (nI i - 1) := by
  intro f
  induction f with
  | zero => intro i d M _ h; omega
  | succ f ih =>
    intro i d M hd hf q
    cases i with
    | zero =>
      have hd : d = e := by omega
      rw [hd] at q
      exact cT (by decide) (H M q)
    | succ i =>
      rw [nI_pred i]
      have hx : e - 1 - d = i := by omega
      have e3 : clN N e d (12 + 10 * i + 3) = N (12 + 10 * i + 3) := clN_hd N e i 3 (by omega) (by decide) d (by omega) hp
      have nx : ∀ (M' : Mem), Q A M' (clN N e (d + 1)) D → ∀ x, x = nI i + (-1 : Int32) → w_X6_clears_L25 457 K f M' 449 w x := by
        intro M' q x hx
        rw [hx, show nI i + (-1 : Int32) = nI i - 1 from (Int32.sub_eq_add_neg (nI i) 1).symm]
        exact ih i (d + 1) M' (by omega) (by omega) q
      refine cF (nI_pos (by omega)) ⟨k449, ?_⟩
      by_cases z : N (12 + 10 * i + 3) = 0
      · refine q_partOn0 q i (by omega) (by rw [e3, z]) (cT (by decide) (nx M ?_))
        unfold clN
        rw [hx, if_pos z]; exact q
      · have hp1 := hp i (by omega)
        obtain ⟨p, ep⟩ : ∃ p, N (12 + 10 * i + 3) = p + 1 := ⟨N (12 + 10 * i + 3) - 1, by omega⟩
        refine q_partOn1 q i p (by omega) (by rw [e3, ep]) (cF (nI_pos (by omega)) (q_partOn1 q i p (by omega) (by rw [e3, ep]) ?_))
        refine q_toFront q p (by omega) (h11 d (by omega) (by rw [hx]; exact z)) (fun M1 q => q_r0 q (q_wI q (12 + 10 * i + 3) 0 (ixH i 3) (by omega) rfl (fun M2 q => nx M2 ?_)))
        unfold clN
        rw [hx, if_neg z, ep, Nat.add_sub_cancel]; exact q
/-- how many heads hold a part; how many parts are in a state -/
def cH (N : Nat → Nat) : Nat → Nat
  | 0 => 0
  | n + 1 => cH N n + (if N (12 + 10 * n + 3) = 0 then 0 else 1)
def cS (N : Nat → Nat) (s : Nat) : Nat → Nat
  | 0 => 0
  | n + 1 => cS N s n + (if N (92 + 8 * n + 3) = s then 1 else 0)
theorem q_onHeads {K : Int32 → Mem → Prop} (q : Q A M N D) (h8 : N 0 ≤ 8) (hp : ∀ h, h < N 0 → N (12 + 10 * h + 3) ≤ 60) (H : K (nI (cH N (N 0))) M) : w_X6_onHeads 457 M 449 K := by
  refine lpU (fun f i (_ : Unit) => w_X6_onHeads_L4 457 K f M 449 (nI (cH N i)) (nI i)) (fun _ _ => True) (N 0) ?_ ?_ 4000 0 () (by omega) (by omega) trivial
  · intro f _ _
    exact ⟨k449, q_r0 q (q_rI q 0 rfl (by decide) (pk_le (N 0) (N 0) (fun _ => H) (fun z => by omega)))⟩
  · intro f i _ hi _ ih
    refine ⟨k449, q_r0 q (q_rI q 0 rfl (by decide) (pk_le (N 0) i (fun z => by omega) (fun _ => ?_)))⟩
    have ih := ih () trivial
    unfold cH at ih
    by_cases z : N (12 + 10 * i + 3) = 0
    · rw [if_pos z] at ih
      refine q_partOn0 q i (by omega) z (cT (by decide) (fun x hx y hy => ?_))
      rw [hx, hy, show nI (cH N i) + (0 : Int32) = nI (cH N i + 0) from nI_add _ 0, show nI i + (1 : Int32) = nI (i + 1) from nI_1 i]
      exact ih
    · rw [if_neg z] at ih
      have := hp i hi
      obtain ⟨p, ep⟩ : ∃ p, N (12 + 10 * i + 3) = p + 1 := ⟨N (12 + 10 * i + 3) - 1, by omega⟩
      refine q_partOn1 q i p (by omega) ep (cF (nI_pos (by omega)) (fun x hx y hy => ?_))
      rw [hx, hy, show nI (cH N i) + (1 : Int32) = nI (cH N i + 1) from nI_add _ 1, show nI i + (1 : Int32) = nI (i + 1) from nI_1 i]
      exact ih
theorem q_inState {K : Int32 → Mem → Prop} (q : Q A M N D) (s : Nat) (hs : s < 2 ^ 30) (h8 : N 2 ≤ 60) (hp : ∀ p, p < N 2 → N (92 + 8 * p + 3) < 2 ^ 30) (H : K (nI (cS N s (N 2))) M) : w_X6_inState 457 M 449 (nI s) K := by
  refine lpU (fun f i (_ : Unit) => w_X6_inState_L4 457 K f M 449 (nI s) (nI (cS N s i)) (nI i)) (fun _ _ => True) (N 2) ?_ ?_ 4000 0 () (by omega) (by omega) trivial
  · intro f _ _
    exact ⟨k449, q_r0 q (q_rI q 2 rfl (by decide) (pk_le (N 2) (N 2) (fun _ => H) (fun z => by omega)))⟩
  · intro f i _ hi _ ih
    refine ⟨k449, q_r0 q (q_rI q 2 rfl (by decide) (pk_le (N 2) i (fun z => by omega) (fun _ => q_ofPart q i 3 (by omega) (by decide) ?_)))⟩
    have ih := ih () trivial
    unfold cS at ih
    have := hp i hi
    have hq := nI_eq (a := N (92 + 8 * i + 3)) (b := s) (by omega) (by omega)
    refine ⟨fun z x hx y hy => ?_, fun z x hx y hy => ?_⟩
    · rw [if_neg (fun t => z (hq.mpr t))] at ih
      rw [hx, hy, show nI (cS N s i) + (0 : Int32) = nI (cS N s i + 0) from nI_add _ 0, show nI i + (1 : Int32) = nI (i + 1) from nI_1 i]
      exact ih
    · rw [if_pos (hq.mp z)] at ih
      rw [hx, hy, show nI (cS N s i) + (1 : Int32) = nI (cS N s i + 1) from nI_add _ 1, show nI i + (1 : Int32) = nI (i + 1) from nI_1 i]
      exact ih
theorem q_placeY {K : Int32 → Mem → Prop} (q : Q A M N D) (p k : Nat) (hp : p < 60) (h11 : N 11 ≤ 60) (hk : k < N 11) (hl : ∀ j, j < N 11 → N (572 + j) < 60) (h1 : N (572 + k) = p) (h2 : ∀ j, j < k → N (572 + j) ≠ p) (H : K (nI k) M) : w_X6_placeOf 457 M 449 (nI p) K := by
  refine lpU (fun f i (_ : Unit) => w_X6_placeOf_L2 457 K f M 449 (nI p) (nI i)) (fun _ _ => True) k ?_ ?_ 4000 0 () (by omega) (by omega) trivial
  · intro f _ _
    refine ⟨k449, q_r0 q (q_rI q 11 rfl (by decide) (pk_le (N 11) k (fun z => by omega) (fun _ => q_r0 q (q_rI q (572 + k) (ixA 572 k) (by omega) ?_))))⟩
    exact cP (by rw [h1]) H
  · intro f i _ hi _ ih
    refine ⟨k449, q_r0 q (q_rI q 11 rfl (by decide) (pk_le (N 11) i (fun z => by omega) (fun _ => q_r0 q (q_rI q (572 + i) (ixA 572 i) (by omega) ?_))))⟩
    have := hl i (by omega)
    refine cN (fun z => h2 i hi ((nI_eq (by omega) (by omega)).mp z)) (fun x hx => ?_)
    rw [hx, show nI i + (1 : Int32) = nI (i + 1) from nI_1 i]
    exact ih () trivial
theorem q_placeN {K : Int32 → Mem → Prop} (q : Q A M N D) (p : Nat) (hp : p < 60) (h11 : N 11 ≤ 60) (hl : ∀ j, j < N 11 → N (572 + j) < 60) (h2 : ∀ j, j < N 11 → N (572 + j) ≠ p) (H : K (-5) M) : w_X6_placeOf 457 M 449 (nI p) K := by
  refine lpU (fun f i (_ : Unit) => w_X6_placeOf_L2 457 K f M 449 (nI p) (nI i)) (fun _ _ => True) (N 11) ?_ ?_ 4000 0 () (by omega) (by omega) trivial
  · intro f _ _
    exact ⟨k449, q_r0 q (q_rI q 11 rfl (by decide) (pk_le (N 11) (N 11) (fun z => H) (fun z => by omega)))⟩
  · intro f i _ hi _ ih
    refine ⟨k449, q_r0 q (q_rI q 11 rfl (by decide) (pk_le (N 11) i (fun z => by omega) (fun _ => q_r0 q (q_rI q (572 + i) (ixA 572 i) (by omega) ?_))))⟩
    have := hl i (by omega)
    refine cN (fun z => h2 i hi ((nI_eq (by omega) (by omega)).mp z)) (fun x hx => ?_)
    rw [hx, show nI i + (1 : Int32) = nI (i + 1) from nI_1 i]
    exact ih () trivial
/-- a new row, with so many heads -/
def bgN (N : Nat → Nat) (k : Nat) : Nat → Nat := fun x => if x = 0 then k else if x = 3 then N 3 else 0
def bgD (D : Nat → UInt64) (k : Nat) : Nat → UInt64 := fun x => if x < 3 then D x else if x < 3 + 12 * k ∧ (x - 3) % 12 < 2 then FP.dconst1 else FP.dconst0
theorem q_begin {K : Mem → Prop} (q : Q A M N D) (k : Nat) (hk : k ≤ 8) (H : ∀ M', Q A M' (bgN N k) (bgD D k) → K M') : w_X6_begin 457 M 449 (nI k) K := by
  have L3 : ∀ (M : Mem) (N' : Nat → Nat), N' = bgN N k → Q A M N' (fun x => if x < 3 then D x else FP.dconst0) → w_X6_begin_L67 457 K 4000 M 449 (nI k) 0 := by
    intro M N' hN q
    subst hN
    refine lpU (fun f i M => w_X6_begin_L67 457 K f M 449 (nI k) (nI i)) (fun i M => Q A M (bgN N k) (bgD D i)) k ?_ ?_ 4000 0 M (by omega) (by omega) ?_
    · intro f M q
      exact pk_le k k (fun _ => H M q) (fun z => by omega)
    · intro f i M hi q ih
      refine pk_le k i (fun z => by omega) (fun _ => ⟨k449, q_r3 q (q_wD q (3 + 12 * i) (ixG i 0) (by omega) (fun M1 q => q_r3 q (q_wD q (4 + 12 * i) ((ixG i 1).trans (congrArg nI (by omega))) (by omega) (fun M2 q x hx => ?_))))⟩)
      rw [hx, show nI i + (1 : Int32) = nI (i + 1) from nI_1 i]
      refine ih M2 ?_
      have e : up (up (bgD D i) (3 + 12 * i) FP.dconst1) (4 + 12 * i) FP.dconst1 = bgD D (i + 1) := by
        funext x
        unfold bgD up
        by_cases e1 : x = 4 + 12 * i
        · rw [if_pos e1, if_neg (by omega), if_pos (by omega)]
        · rw [if_neg e1]
          dsimp only
          by_cases e2 : x = 3 + 12 * i
          · rw [if_pos e2, if_neg (by omega), if_pos (by omega)]
          · rw [if_neg e2]
            by_cases e3 : x < 3
            · rw [if_pos e3, if_pos e3]
            · rw [if_neg e3, if_neg e3]
              by_cases e4 : x < 3 + 12 * i ∧ (x - 3) % 12 < 2
              · rw [if_pos e4, if_pos (by omega)]
              · rw [if_neg e4, if_neg (by omega)]
      rw [← e]; exact q
    · have e : bgD D 0 = (fun x => if x < 3 then D x else FP.dconst0) := by
        funext x
        unfold bgD
        by_cases e3 : x < 3
        · rw [if_pos e3, if_pos e3]
        · rw [if_neg e3, if_neg e3, if_neg (by omega)]
      rw [e]; exact q
  have L2 : ∀ (M : Mem) (N' : Nat → Nat), N' = (fun x => if x = 3 then N 3 else if x < 632 then 0 else N x) → Q A M N' D → w_X6_begin_L38 457 K 4000 M 449 (nI k) 3 := by
    intro M N' hN q
    refine lpU (fun f i M => w_X6_begin_L38 457 K f M 449 (nI k) (nI i)) (fun i M => 3 ≤ i ∧ Q A M N' (fun x => if 3 ≤ x ∧ x < i then FP.dconst0 else D x)) 159 ?_ ?_ 4000 3 M (by omega) (by omega) ?_
    · intro f M ⟨_, q⟩
      refine pk_le 159 159 (fun _ => ⟨k449, q_r0 q (q_wI q 0 k rfl (by decide) rfl (fun M1 q => ?_))⟩) (fun z => by omega)
      obtain ⟨⟨f1, f2, f3⟩, o⟩ := q
      refine L3 M1 (bgN N k) rfl ⟨⟨f1, fun j hj => ?_, fun j hj => ?_⟩, o⟩
      · rw [f2 j hj, hN]
        congr 1
        unfold up bgN
        by_cases e : j = 0
        · rw [if_pos e, if_pos e]
        · rw [if_neg e, if_neg e]
          dsimp only
          by_cases e3 : j = 3
          · rw [if_pos e3, if_pos e3]
          · rw [if_neg e3, if_neg e3, if_pos hj]
      · rw [f3 j hj]
        dsimp only
        by_cases e3 : j < 3
        · rw [if_pos e3, if_neg (by omega)]
        · rw [if_neg e3, if_pos (by omega)]
    · intro f i M hi ⟨hi3, q⟩ ih
      refine pk_le 159 i (fun z => by omega) (fun _ => ⟨k449, q_r3 q ?_⟩)
      · refine q_wD q i rfl (by omega) (fun M1 q x hx => ?_)
        rw [hx, show nI i + (1 : Int32) = nI (i + 1) from nI_1 i]
        refine ih M1 ⟨by omega, ?_⟩
        have e : up (fun x => if 3 ≤ x ∧ x < i then FP.dconst0 else D x) i FP.dconst0 = (fun x => if 3 ≤ x ∧ x < i + 1 then FP.dconst0 else D x) := by
          funext x
          unfold up
          by_cases e1 : x = i
          · rw [if_pos e1, if_pos (by omega)]
          · rw [if_neg e1]
            dsimp only
            by_cases e2 : 3 ≤ x ∧ x < i
            · rw [if_pos e2, if_pos (by omega)]
            · rw [if_neg e2, if_neg (by omega)]
        rw [← e]; exact q
    · have e : (fun x => if 3 ≤ x ∧ x < 3 then FP.dconst0 else D x) = D := by
        funext x
        exact if_neg (by omega)
      rw [e]; exact ⟨by decide, q⟩
  refine lpU (fun f i M => w_X6_begin_L2 457 K f M 449 (nI k) (nI i)) (fun i M => Q A M (fun x => if x = 3 then N 3 else if x < i then 0 else N x) D) 632 ?_ ?_ 4000 0 M (by omega) (by omega) ?_
  · intro f M q
    exact pk_le 632 632 (fun _ => L2 M _ rfl q) (fun z => by omega)
  · intro f i M hi q ih
    have e : ∀ v, v = (if i = 3 then N 3 else 0) → up (fun x => if x = 3 then N 3 else if x < i then 0 else N x) i v = (fun x => if x = 3 then N 3 else if x < i + 1 then 0 else N x) := by
      intro v hv
      funext x
      unfold up
      by_cases e1 : x = i
      · rw [if_pos e1, hv]
        by_cases e2 : i = 3
        · rw [if_pos e2, if_pos (by omega)]
        · rw [if_neg e2, if_neg (by omega), if_pos (by omega)]
      · rw [if_neg e1]
        dsimp only
        by_cases e2 : x = 3
        · rw [if_pos e2, if_pos e2]
        · rw [if_neg e2, if_neg e2]
          by_cases e3 : x < i
          · rw [if_pos e3, if_pos (by omega)]
          · rw [if_neg e3, if_neg (by omega)]
    refine pk_le 632 i (fun z => by omega) (fun _ => ⟨k449, q_r0 q ?_⟩)
    by_cases e3 : i = 3
    · refine cP (by rw [e3]; rfl) (q_r0 q (q_rI q i rfl hi (q_wI q i (N 3) rfl hi ?_ (fun M1 q x hx => ?_))))
      · rw [if_pos e3]
      · rw [hx, show nI i + (1 : Int32) = nI (i + 1) from nI_1 i]
        refine ih M1 ?_
        rw [← e (N 3) (by rw [if_pos e3])]; exact q
    · refine cN (fun z => e3 ((nI_eq (b := 3) (by omega) (by decide)).mp z)) (q_wI q i 0 rfl hi rfl (fun M1 q x hx => ?_))
      rw [hx, show nI i + (1 : Int32) = nI (i + 1) from nI_1 i]
      refine ih M1 ?_
      rw [← e 0 (by rw [if_neg e3])]; exact q
  · have e : (fun x => if x = 3 then N 3 else if x < 0 then 0 else N x) = N := by
      funext x
      by_cases e2 : x = 3
      · rw [if_pos e2, e2]
      · rw [if_neg e2, if_neg (by omega)]
    rw [e]; exact q
