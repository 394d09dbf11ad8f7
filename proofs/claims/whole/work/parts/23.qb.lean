/-! THE PURE PART, 4: the reference's step -/
variable {A M : Mem} {N : Nat → Nat} {D : Nat → UInt64}
/-- the judgement: 0 accepted, 1 burst, 2 leaking, 13 unclear, 14 uncalibrated -/
def jd (N : Nat → Nat) (D : Nat → UInt64) (h t : Nat) (v : UInt64) : Nat := if 0 ≤ Op.cmpValue (FP.dcmp (D (5 + 12 * h + t)) (FP.ddiv (D (5 + 12 * h + 0)) 4611686018427387904)) CmpOp.g then (if N (12 + 10 * h + 2) ≤ N 3 then (if 0 < Op.cmpValue (FP.dcmp v (D 1)) CmpOp.g then (if Op.cmpValue (FP.dcmp v (D 2)) CmpOp.l ≤ 0 then 13 else 2) else 0) else 14) else 1
theorem q_judged {K : Int32 → Mem → Prop} (q : Q A M N D) (h t : Nat) (v : UInt64) (hh : h < 8) (ht : t < 10) (hx : N (12 + 10 * h + 8) = t + 1) (hv : vf_n64 (FP.ddiv (D (5 + 12 * h + 0)) 4611686018427387904)) (b1 : N (12 + 10 * h + 2) < 2 ^ 31) (b2 : N 3 < 2 ^ 31) (H : K (nI (jd N D h t v)) M) : w_X6_judged 457 M 449 (nI h) v K := by
  refine ⟨k449, q_present q h t hh ht hx (q_traced q h 0 hh (by decide) ⟨hv, fun z6 hz => ?_⟩)⟩
  subst hz
  unfold jd at H
  refine ⟨fun z => ?_, fun z => ?_⟩
  · rw [if_pos z] at H
    refine q_ofHead q h 2 hh (by decide) (q_r0 q (q_rI q 3 rfl (by decide) ?_))
    refine pk_le _ _ (fun y => ?_) (fun y => ?_) rfl rfl b1 b2
    · rw [if_pos y] at H
      refine q_r3 q (q_rD q 1 rfl (by decide) ⟨fun x => ?_, fun x => ?_⟩)
      · rw [if_pos x] at H
        refine q_r3 q (q_rD q 2 rfl (by decide) ⟨fun w => ?_, fun w => ?_⟩)
        · rw [if_pos w] at H; exact H
        · rw [if_neg w] at H; exact H
      · rw [if_neg x] at H; exact H
    · rw [if_neg (by omega)] at H; exact H
  · rw [if_neg z] at H; exact H
def qT (K : Mem → Prop) (M : Mem) (h : Nat) : Prop := ∀ r39, r39 = gR M 449 3 → w_X6_gain 457 M 449 (nI h) (fun z41 M40 => w_X6_ofHead 457 M40 449 (nI h) (0 : Int32) (fun x43 M42 => (vf_n64 (FP.ddiv (FP.i2d x43) (4696837146684686336 : UInt64)) ∧ (∀ z44, z44 = FP.ddiv (FP.i2d x43) (4696837146684686336 : UInt64) → (vf_n64 (FP.dsub FP.dconst1 z44) ∧ (∀ z45, z45 = FP.dsub FP.dconst1 z44 → (vf_n64 (FP.dmul z41 z45) ∧ (∀ z46, z46 = FP.dmul z41 z45 → ((r39 ≤ 457 ∧ (kd r39).1 = 8 ∧ vp_in (((3 : Int32) + ((12 : Int32) * nI h)) + (0 : Int32)) (kd r39).2) ∧ (∀ M47, M47 = sD M42 r39 (Int32.toNatClampNeg (((3 : Int32) + ((12 : Int32) * nI h)) + (0 : Int32))) z46 → K M47))))))))))
theorem q_tail {K : Mem → Prop} (q : Q A M N D) (h m : Nat) (hh : h < 8) (hg : GR m (D (3 + 12 * h))) (hm : m ≤ 20480) (hw : N (12 + 10 * h + 0) ≤ 1000) (H : ∀ M', Q A M' N (up D (3 + 12 * h) (gnE (D (3 + 12 * h)) (N (12 + 10 * h + 0)))) → K M') : qT K M h := by
  obtain ⟨g1, g2, g3, -⟩ := gain_ok hg hm hw
  refine q_r3 q (q_gain q h hh (q_ofHead q h 0 hh (by decide) ⟨g1, fun z44 h44 => ?_⟩))
  subst h44
  refine ⟨g2, fun z45 h45 => ?_⟩
  subst h45
  refine ⟨g3, fun z46 h46 => ?_⟩
  subst h46
  exact q_wD q (3 + 12 * h) (ixG h 0) (by omega) H
def vl (N : Nat → Nat) (D : Nat → UInt64) (h p t : Nat) : UInt64 := vlE (D (5 + 12 * h + 0)) (D (5 + 12 * h + t)) (D (3 + 12 * h)) (D (4 + 12 * h)) (N (92 + 8 * p + 2)) (N 0 - 1)
def eA0 (N : Nat → Nat) (h p : Nat) : Nat → Nat := up (up (inc (inc (inc N (12 + 10 * h + 2)) (12 + 10 * h + 4)) 4) (92 + 8 * p + 4) (N (92 + 8 * p + 4) + 1)) (92 + 8 * p + 6) (h + 1)
def eD0 (N : Nat → Nat) (D : Nat → UInt64) (h p t : Nat) : Nat → UInt64 := up D (99 + p) (vl N D h p t)
def eJ (N : Nat → Nat) (D : Nat → UInt64) (h p t : Nat) : Nat := jd (eA0 N h p) (eD0 N D h p t) h t (vl N D h p t)
def eA (N : Nat → Nat) (h p : Nat) : Nat → Nat := up (eA0 N h p) (12 + 10 * h + 3) 0
def enA (N : Nat → Nat) (h p : Nat) : Nat → Nat := inc (up (eA N h p) (92 + 8 * p + 3) 2) (12 + 10 * h + 5)
def enR (N : Nat → Nat) (h p c : Nat) : Nat → Nat := inc (rjN (eA N h p) p c) (12 + 10 * h + 6)
def enT (N : Nat → Nat) (h p : Nat) : Nat → Nat := tfN (inc (inc (up (eA N h p) (92 + 8 * p + 5) (N (92 + 8 * p + 5) + 1)) (12 + 10 * h + 7)) 5) p
def enN (N : Nat → Nat) (D : Nat → UInt64) (h p t : Nat) : Nat → Nat := if eJ N D h p t = 0 then enA N h p else if eJ N D h p t < 10 ∨ N (92 + 8 * p + 5) = 2 then enR N h p (eJ N D h p t % 10) else enT N h p
def enD (N : Nat → Nat) (D : Nat → UInt64) (h p t : Nat) : Nat → UInt64 := up (eD0 N D h p t) (3 + 12 * h) (gnE (D (3 + 12 * h)) (N (12 + 10 * h + 0)))
theorem jd_le (N : Nat → Nat) (D : Nat → UInt64) (h t : Nat) (v : UInt64) : jd N D h t v = 0 ∨ jd N D h t v = 1 ∨ jd N D h t v = 2 ∨ jd N D h t v = 13 ∨ jd N D h t v = 14 := by
  unfold jd
  split
  · split
    · split
      · split
        · exact Or.inr (Or.inr (Or.inr (Or.inl rfl)))
        · exact Or.inr (Or.inr (Or.inl rfl))
      · exact Or.inl rfl
    · exact Or.inr (Or.inr (Or.inr (Or.inr rfl)))
  · exact Or.inr (Or.inl rfl)
theorem q_ends {K : Mem → Prop} (q : Q A M N D) (h p t m : Nat) (hh : h < 8) (hp : p < 60) (ht : t < 10) (hn1 : 2 ≤ N 0) (hn2 : N 0 ≤ 8) (hx : N (12 + 10 * h + 3) = p + 1) (hx8 : N (12 + 10 * h + 8) = t + 1) (ha : PZ (D (5 + 12 * h + 0))) (hb : PZ (D (5 + 12 * h + t))) (hv : N (92 + 8 * p + 2) ≤ 999) (hg : GR m (D (3 + 12 * h))) (hm : m ≤ 20480) (hf : FR (D (4 + 12 * h))) (hw : N (12 + 10 * h + 0) ≤ 1000) (b1 : N (12 + 10 * h + 2) < 2 ^ 30) (b2 : N 3 < 2 ^ 30) (b3 : N (92 + 8 * p + 5) < 2 ^ 30) (b4 : N 11 < 60) (H : ∀ M', Q A M' (enN N D h p t) (enD N D h p t) → K M') : w_X6_ends 457 M 449 (nI h) K := by
  obtain ⟨f1, f2, f3, f4, f5⟩ := val_ok (n := N 0 - 1) ha hb hv (by omega) (by omega) hg hf
  refine ⟨k449, q_partOn1 q h p hh hx (q_traced q h 0 hh (by decide) (q_present q h t hh ht hx8 ⟨f1, fun z8 e => ?_⟩))⟩
  subst e
  refine q_ofPart q p 2 hp (by decide) ⟨f2, fun z e => ?_⟩
  subst e
  refine q_r0 q (q_rI q 0 rfl (by decide) ?_)
  have en : nI (N 0) - (1 : Int32) = nI (N 0 - 1) := pk_sub (b := 1) (by omega)
  rw [en]
  refine ⟨f3, fun z e => ?_⟩
  subst e
  refine q_gain q h hh ⟨f4, fun z e => ?_⟩
  subst e
  refine q_factor q h hh ⟨f5, fun z e => ?_⟩
  subst e
  refine q_more q h 2 hh (by decide) (fun M1 q => q_more q h 4 hh (by decide) (fun M2 q => q_r0 q (q_inc q 4 rfl (by decide) (fun M3 q => q_ofPart q p 4 hp (by decide) ?_))))
  have e4 : inc (inc (inc N (12 + 10 * h + 2)) (12 + 10 * h + 4)) 4 (92 + 8 * p + 4) = N (92 + 8 * p + 4) := by rw [inc_ne (by omega), inc_ne (by omega), inc_ne (by omega)]
  rw [e4]
  refine q_put q p 4 _ hp (by decide) (nI_add _ 1) (fun M4 q => q_put q p 6 (h + 1) hp (by decide) (nI_add h 1) (fun M5 q => q_r3 q (q_wD q (99 + p) (ixA 99 p) (by omega) (fun M6 q => ?_))))
  change Q A M6 (eA0 N h p) (eD0 N D h p t) at q
  have d0 : ∀ j, j < 99 → eD0 N D h p t j = D j := fun j hj => up_ne (by omega)
  have a0 : ∀ j, j ≠ 12 + 10 * h + 2 → j ≠ 12 + 10 * h + 4 → j ≠ 4 → j ≠ 92 + 8 * p + 4 → j ≠ 92 + 8 * p + 6 → eA0 N h p j = N j := fun j h1 h2 h3 h4 h5 => by
    unfold eA0
    rw [up_ne h5, up_ne h4, inc_ne h3, inc_ne h2, inc_ne h1]
  refine q_judged q h t _ hh ht ?_ ?_ ?_ ?_ ?_
  · rw [a0 _ (by omega) (by omega) (by omega) (by omega) (by omega)]; exact hx8
  · rw [d0 _ (by omega)]; exact half_ok ha
  · unfold eA0
    rw [up_ne (by omega), up_ne (by omega), inc_ne (by omega), inc_ne (by omega), inc_eq]; omega
  · rw [a0 _ (by omega) (by omega) (by omega) (by omega) (by omega)]; omega
  · refine q_r0 q (q_wI q (12 + 10 * h + 3) 0 (ixH h 3) (by omega) rfl (fun M7 q => ?_))
    change Q A M7 (eA N h p) (eD0 N D h p t) at q
    have T : ∀ (N' : Nat → Nat) (M' : Mem), Q A M' N' (eD0 N D h p t) → N' (12 + 10 * h + 0) = N (12 + 10 * h + 0) → (∀ M'', Q A M'' N' (enD N D h p t) → K M'') → qT K M' h := by
      intro N' M' q he HK
      refine q_tail q h m hh (by rw [d0 _ (by omega)]; exact hg) hm (by rw [he]; exact hw) ?_
      rw [d0 _ (by omega), he]
      exact HK
    have aA : ∀ j, j ≠ 12 + 10 * h + 3 → eA N h p j = eA0 N h p j := fun j h1 => up_ne h1
    have A0 : eA N h p (12 + 10 * h + 0) = N (12 + 10 * h + 0) := by rw [aA _ (by omega), a0 _ (by omega) (by omega) (by omega) (by omega) (by omega)]
    have A5 : eA N h p (92 + 8 * p + 5) = N (92 + 8 * p + 5) := by rw [aA _ (by omega), a0 _ (by omega) (by omega) (by omega) (by omega) (by omega)]
    have A11 : eA N h p 11 = N 11 := by rw [aA _ (by omega), a0 _ (by omega) (by omega) (by omega) (by omega) (by omega)]
    have R0 : ∀ c, c ≤ 5 → enR N h p c (12 + 10 * h + 0) = N (12 + 10 * h + 0) := by
      intro c hc
      unfold enR rjN
      rw [inc_ne (by omega), inc_ne (by omega), up_ne (by omega), up_ne (by omega)]
      exact A0
    have hs := jd_le (eA0 N h p) (eD0 N D h p t) h t (FP.dmul (FP.dmul (FP.ddiv (FP.dmul (FP.dsub (D (5 + 12 * h + 0)) (D (5 + 12 * h + t))) (FP.i2d (nI (N (92 + 8 * p + 2))))) (FP.i2d (nI (N 0 - 1)))) (D (3 + 12 * h))) (D (4 + 12 * h)))
    unfold enN at H
    have ej : eJ N D h p t = jd (eA0 N h p) (eD0 N D h p t) h t (FP.dmul (FP.dmul (FP.ddiv (FP.dmul (FP.dsub (D (5 + 12 * h + 0)) (D (5 + 12 * h + t))) (FP.i2d (nI (N (92 + 8 * p + 2))))) (FP.i2d (nI (N 0 - 1)))) (D (3 + 12 * h))) (D (4 + 12 * h))) := rfl
    rw [ej] at H
    rcases hs with e | e | e | e | e <;> rw [e] at H ⊢
    · refine cP rfl ?_
      rw [if_pos rfl] at H
      refine q_put q p 3 2 hp (by decide) rfl (fun M8 q => q_more q h 5 hh (by decide) (fun M9 q => T _ _ q ?_ H))
      rw [inc_ne (by omega), up_ne (by omega)]; exact A0
    · refine cN (by decide) (cT (by decide) ⟨by decide, fun x36 hx => ?_⟩)
      rw [hx]
      rw [if_neg (by decide), if_pos (Or.inl (by decide))] at H
      exact q_rejects q p 1 hp (by decide) (fun M8 q => q_more q h 6 hh (by decide) (fun M9 q => T _ _ q (R0 1 (by decide)) H))
    · refine cN (by decide) (cT (by decide) ⟨by decide, fun x36 hx => ?_⟩)
      rw [hx]
      rw [if_neg (by decide), if_pos (Or.inl (by decide))] at H
      exact q_rejects q p 2 hp (by decide) (fun M8 q => q_more q h 6 hh (by decide) (fun M9 q => T _ _ q (R0 2 (by decide)) H))
    all_goals
      refine cN (by decide) (cF (by decide) ?_)
      rw [if_neg (by decide)] at H
      refine q_ofPart q p 5 hp (by decide) ?_
      by_cases e2 : N (92 + 8 * p + 5) = 2
      · refine cP (by rw [A5, e2]; rfl) ⟨by decide, fun x36 hx => ?_⟩
        rw [hx]
        rw [if_pos (Or.inr e2)] at H
        first
        | exact q_rejects q p 3 hp (by decide) (fun M8 q => q_more q h 6 hh (by decide) (fun M9 q => T _ _ q (R0 3 (by decide)) H))
        | exact q_rejects q p 4 hp (by decide) (fun M8 q => q_more q h 6 hh (by decide) (fun M9 q => T _ _ q (R0 4 (by decide)) H))
      · refine cN (by rw [A5]; exact fun z => e2 ((nI_eq (b := 2) (by omega) (by decide)).mp z)) ?_
        rw [if_neg (fun z => z.elim (fun y => absurd y (by decide)) e2)] at H
        refine q_ofPart q p 5 hp (by decide) ?_
        rw [A5]
        refine q_put q p 5 _ hp (by decide) (nI_add _ 1) (fun M8 q => q_more q h 7 hh (by decide) (fun M9 q => q_r0 q (q_inc q 5 rfl (by decide) (fun M10 q => q_toFront q p hp ?_ (fun M11 q => T _ _ q ?_ H)))))
        · rw [inc_ne (by omega), inc_ne (by omega), up_ne (by omega), A11]; exact b4
        · unfold tfN
          rw [up_ne (by omega), inc_ne (by omega), up_ne (by omega)]
          unfold shN
          rw [if_neg (by omega), inc_ne (by omega), inc_ne (by omega), up_ne (by omega)]
          exact A0
/-- which part a head takes: the first of the row that its fixture takes and that it did not test last -/
abbrev el (N : Nat → Nat) (h p : Nat) : Prop := tk N h p ∧ N (92 + 8 * p + 6) ≠ h + 1
def ff (N : Nat → Nat) (h : Nat) : Nat → Nat → Nat
  | 0, k => k
  | f + 1, k => if k < N 11 ∧ ¬ el N h (N (572 + k)) then ff N h f (k + 1) else k
def rmP (N : Nat → Nat) (k i : Nat) : Nat → Nat := fun x => if 572 + k ≤ x ∧ x < 572 + i then N (x + 1) else N x
def fiN (N : Nat → Nat) (h k : Nat) : Nat → Nat := up (up (up (rmP (up N 11 (N 11 - 1)) k (N 11 - 1)) (92 + 8 * N (572 + k) + 3) 1) (12 + 10 * h + 3) (N (572 + k) + 1)) (12 + 10 * h + 8) 1
def flN (N : Nat → Nat) (h : Nat) : Nat → Nat := if ff N h 61 0 = N 11 then N else fiN N h (ff N h 61 0)
def flD (N : Nat → Nat) (D : Nat → UInt64) (h : Nat) : Nat → UInt64 := if ff N h 61 0 = N 11 then D else up D (5 + 12 * h) (D 0)
theorem rmP_0 (N : Nat → Nat) (k : Nat) : rmP N k k = N := by
  funext x
  exact if_neg (by omega)
theorem rmP_step (N : Nat → Nat) (k i : Nat) (h : k ≤ i) : up (rmP N k i) (572 + i) (N (572 + i + 1)) = rmP N k (i + 1) := by
  funext x
  unfold rmP up
  by_cases e : x = 572 + i
  · rw [if_pos e, if_pos (by omega), e]
  · rw [if_neg e]
    dsimp only
    by_cases f : 572 + k ≤ x ∧ x < 572 + i
    · rw [if_pos f, if_pos (by omega)]
    · rw [if_neg f, if_neg (by omega)]
theorem ff_ge (N : Nat → Nat) (h : Nat) : ∀ f k, k ≤ ff N h f k := by
  intro f
  induction f with
  | zero => intro k; exact Nat.le_refl _
  | succ f ih =>
    intro k
    unfold ff
    split
    · exact Nat.le_trans (Nat.le_succ k) (ih (k + 1))
    · exact Nat.le_refl _
theorem ff_le (N : Nat → Nat) (h : Nat) : ∀ f k, k ≤ N 11 → ff N h f k ≤ N 11 := by
  intro f
  induction f with
  | zero => intro k hk; exact hk
  | succ f ih =>
    intro k hk
    unfold ff
    split
    · next e => exact ih (k + 1) (by omega)
    · exact hk
theorem ff_no (N : Nat → Nat) (h : Nat) : ∀ f k j, k ≤ j → j < ff N h f k → ¬ el N h (N (572 + j)) := by
  intro f
  induction f with
  | zero => intro k j h1 h2; unfold ff at h2; omega
  | succ f ih =>
    intro k j h1 h2
    unfold ff at h2
    split at h2
    · next e =>
      by_cases q : j = k
      · rw [q]; exact e.2
      · exact ih (k + 1) j (by omega) h2
    · omega
theorem ff_yes (N : Nat → Nat) (h : Nat) : ∀ f k, k ≤ N 11 → N 11 - k < f → ff N h f k ≠ N 11 → el N h (N (572 + ff N h f k)) := by
  intro f
  induction f with
  | zero => intro k _ h2; omega
  | succ f ih =>
    intro k hk hf
    unfold ff
    split
    · next e => exact ih (k + 1) (by omega) (by omega)
    · next e =>
      intro hne
      exact Classical.not_not.mp (fun z => e ⟨by omega, z⟩)
