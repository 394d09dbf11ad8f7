/-! THE PURE PART, 3: the reference's acts, as functions of its numbers and doubles -/
def Q (A M : Mem) (N : Nat → Nat) (D : Nat → UInt64) : Prop := Rf M N D ∧ On A M
variable {A M : Mem} {N : Nat → Nat} {D : Nat → UInt64}
theorem Q.g0 (q : Q A M N D) : gR M 449 0 = 450 := q.1.1.1
theorem Q.g3 (q : Q A M N D) : gR M 449 3 = 453 := q.1.1.2.2.2.1
theorem q_r0 {B : Nat → Prop} (q : Q A M N D) (h : B 450) : ∀ r, r = gR M 449 0 → B r := fun r hr => by rw [hr, q.g0]; exact h
theorem q_r3 {B : Nat → Prop} (q : Q A M N D) (h : B 453) : ∀ r, r = gR M 449 3 → B r := fun r hr => by rw [hr, q.g3]; exact h
theorem q_rI {P : Int32 → Prop} {i : Int32} (q : Q A M N D) (j : Nat) (hi : i = nI j) (hj : j < 632) (h : P (nI (N j))) : (450 ≤ 457 ∧ (kd 450).1 = 7 ∧ vp_in i (kd 450).2) ∧ ∀ x, x = gI M 450 (Int32.toNatClampNeg i) → P x := by
  subst hi
  refine ⟨⟨by decide, by decide, vp_in_nI hj (by decide)⟩, fun x hx => ?_⟩
  rw [nI_clamp (by omega), q.1.2.1 j hj] at hx
  rw [hx]; exact h
theorem q_rD {P : UInt64 → Prop} {i : Int32} (q : Q A M N D) (j : Nat) (hi : i = nI j) (hj : j < 159) (h : P (D j)) : (453 ≤ 457 ∧ (kd 453).1 = 8 ∧ vp_in i (kd 453).2) ∧ ∀ x, x = gD M 453 (Int32.toNatClampNeg i) → P x := by
  subst hi
  refine ⟨⟨by decide, by decide, vp_in_nI hj (by decide)⟩, fun x hx => ?_⟩
  rw [nI_clamp (by omega), q.1.2.2 j hj] at hx
  rw [hx]; exact h
theorem q_wI {P : Mem → Prop} {i w : Int32} (q : Q A M N D) (j v : Nat) (hi : i = nI j) (hj : j < 632) (hv : w = nI v) (h : ∀ M', Q A M' (up N j v) D → P M') : (450 ≤ 457 ∧ (kd 450).1 = 7 ∧ vp_in i (kd 450).2) ∧ ∀ M2, M2 = sI M 450 (Int32.toNatClampNeg i) w → P M2 := by
  subst hi hv
  refine ⟨⟨by decide, by decide, vp_in_nI hj (by decide)⟩, fun x hx => ?_⟩
  rw [nI_clamp (by omega)] at hx
  rw [hx]; exact h _ ⟨q.1.sI j v, q.2.trans (On.sI M j _)⟩
theorem q_wD {P : Mem → Prop} {i : Int32} {v : UInt64} (q : Q A M N D) (j : Nat) (hi : i = nI j) (hj : j < 159) (h : ∀ M', Q A M' N (up D j v) → P M') : (453 ≤ 457 ∧ (kd 453).1 = 8 ∧ vp_in i (kd 453).2) ∧ ∀ M2, M2 = sD M 453 (Int32.toNatClampNeg i) v → P M2 := by
  subst hi
  refine ⟨⟨by decide, by decide, vp_in_nI hj (by decide)⟩, fun x hx => ?_⟩
  rw [nI_clamp (by omega)] at hx
  rw [hx]; exact h _ ⟨q.1.sD j v, q.2.trans (On.sD M j _)⟩
/-- one more at a place -/
def inc (N : Nat → Nat) (j : Nat) : Nat → Nat := up N j (N j + 1)
theorem inc_eq (N : Nat → Nat) (j : Nat) : inc N j j = N j + 1 := up_eq _ _ _
theorem inc_ne {N : Nat → Nat} {j i : Nat} (h : i ≠ j) : inc N j i = N i := up_ne h
theorem q_inc {P : Mem → Prop} {i : Int32} (q : Q A M N D) (j : Nat) (hi : i = nI j) (hj : j < 632) (h : ∀ M', Q A M' (inc N j) D → P M') : (450 ≤ 457 ∧ (kd 450).1 = 7 ∧ vp_in i (kd 450).2) ∧ (∀ x, x = gI M 450 (Int32.toNatClampNeg i) → ((450 ≤ 457 ∧ (kd 450).1 = 7 ∧ vp_in i (kd 450).2) ∧ (∀ M2, M2 = sI M 450 (Int32.toNatClampNeg i) (x + 1) → P M2))) :=
  q_rI q j hi hj (q_wI q j (N j + 1) hi hj (nI_add _ 1) h)
theorem ixA (a b : Nat) : nI a + nI b = nI (a + b) := nI_add a b
theorem ixH (h k : Nat) : nI 12 + nI 10 * nI h + nI k = nI (12 + 10 * h + k) := by rw [ixM, nI_add, nI_add]
theorem ixP (p k : Nat) : nI 92 + nI 8 * nI p + nI k = nI (92 + 8 * p + k) := by rw [ixM, nI_add, nI_add]
theorem ixG (h k : Nat) : nI 3 + nI 12 * nI h + nI k = nI (3 + 12 * h + k) := by rw [ixM, nI_add, nI_add]
theorem cT {p A B : Prop} (hp : p) (h : A) : (p → A) ∧ (¬ p → B) := ⟨fun _ => h, fun z => absurd hp z⟩
theorem cF {p A B : Prop} (hp : ¬ p) (h : B) : (p → A) ∧ (¬ p → B) := ⟨fun z => absurd z hp, fun _ => h⟩
theorem cN {p A B : Prop} (hp : ¬ p) (h : A) : (¬ p → A) ∧ (p → B) := ⟨fun _ => h, fun z => absurd z hp⟩
theorem cP {p A B : Prop} (hp : p) (h : B) : (¬ p → A) ∧ (p → B) := ⟨fun z => absurd hp z, fun _ => h⟩
theorem q_ofHead {K : Int32 → Mem → Prop} (q : Q A M N D) (h k : Nat) (hh : h < 8) (hk : k < 10) (H : K (nI (N (12 + 10 * h + k))) M) : w_X6_ofHead 457 M 449 (nI h) (nI k) K :=
  ⟨k449, q_r0 q (q_rI q (12 + 10 * h + k) (ixH h k) (by omega) H)⟩
theorem q_ofPart {K : Int32 → Mem → Prop} (q : Q A M N D) (p k : Nat) (hp : p < 60) (hk : k < 8) (H : K (nI (N (92 + 8 * p + k))) M) : w_X6_ofPart 457 M 449 (nI p) (nI k) K :=
  ⟨k449, q_r0 q (q_rI q (92 + 8 * p + k) (ixP p k) (by omega) H)⟩
theorem q_more {K : Mem → Prop} (q : Q A M N D) (h k : Nat) (hh : h < 8) (hk : k < 10) (H : ∀ M', Q A M' (inc N (12 + 10 * h + k)) D → K M') : w_X6_more 457 M 449 (nI h) (nI k) K :=
  ⟨k449, q_r0 q (q_inc q (12 + 10 * h + k) (ixH h k) (by omega) H)⟩
theorem q_put {K : Mem → Prop} {w : Int32} (q : Q A M N D) (p k v : Nat) (hp : p < 60) (hk : k < 8) (hv : w = nI v) (H : ∀ M', Q A M' (up N (92 + 8 * p + k) v) D → K M') : w_X6_put 457 M 449 (nI p) (nI k) w K :=
  ⟨k449, q_r0 q (q_wI q (92 + 8 * p + k) v (ixP p k) (by omega) hv H)⟩
theorem q_partOn0 {K : Int32 → Mem → Prop} (q : Q A M N D) (h : Nat) (hh : h < 8) (hx : N (12 + 10 * h + 3) = 0) (H : K (-1) M) : w_X6_partOn 457 M 449 (nI h) K :=
  ⟨k449, q_ofHead q h 3 hh (by decide) (by rw [hx]; exact H)⟩
theorem q_partOn1 {K : Int32 → Mem → Prop} (q : Q A M N D) (h p : Nat) (hh : h < 8) (hx : N (12 + 10 * h + 3) = p + 1) (H : K (nI p) M) : w_X6_partOn 457 M 449 (nI h) K :=
  ⟨k449, q_ofHead q h 3 hh (by decide) (by rw [hx, nI_pred]; exact H)⟩
theorem q_gain {K : UInt64 → Mem → Prop} (q : Q A M N D) (h : Nat) (hh : h < 8) (H : K (D (3 + 12 * h)) M) : w_X6_gain 457 M 449 (nI h) K :=
  ⟨k449, q_r3 q (q_rD q (3 + 12 * h) (ixG h 0) (by omega) H)⟩
theorem q_factor {K : UInt64 → Mem → Prop} (q : Q A M N D) (h : Nat) (hh : h < 8) (H : K (D (4 + 12 * h)) M) : w_X6_factor 457 M 449 (nI h) K :=
  ⟨k449, q_r3 q (q_rD q (4 + 12 * h) ((ixG h 1).trans (congrArg nI (by omega))) (by omega) H)⟩
theorem ixT (h k : Nat) : nI 3 + nI 12 * nI h + nI 2 + nI k = nI (5 + 12 * h + k) := by rw [ixM, nI_add, nI_add, nI_add]; congr 1; omega
theorem q_traced {K : UInt64 → Mem → Prop} (q : Q A M N D) (h k : Nat) (hh : h < 8) (hk : k < 10) (H : K (D (5 + 12 * h + k)) M) : w_X6_traced 457 M 449 (nI h) (nI k) K :=
  ⟨k449, q_r3 q (q_rD q (5 + 12 * h + k) (ixT h k) (by omega) H)⟩
theorem q_present {K : UInt64 → Mem → Prop} (q : Q A M N D) (h k : Nat) (hh : h < 8) (hk : k < 10) (ht : N (12 + 10 * h + 8) = k + 1) (H : K (D (5 + 12 * h + k)) M) : w_X6_present 457 M 449 (nI h) K :=
  ⟨k449, q_ofHead q h 8 hh (by decide) (by rw [ht, nI_pred]; exact q_traced q h k hh hk H)⟩
/-- whether a head's fixture takes a part -/
abbrev tk (N : Nat → Nat) (h p : Nat) : Prop := N (12 + 10 * h + 1) = 0 ∨ N (12 + 10 * h + 1) = 1 + N (92 + 8 * p)
theorem q_takes {K : Int32 → Mem → Prop} (q : Q A M N D) (h p : Nat) (hh : h < 8) (hp : p < 60) (h1 : N (12 + 10 * h + 1) ≤ 2) (h2 : N (92 + 8 * p) ≤ 1) (HT : tk N h p → K 1 M) (HF : ¬ tk N h p → K 0 M) : w_X6_takes 457 M 449 (nI h) (nI p) K := by
  refine ⟨k449, q_ofHead q h 1 hh (by decide) ?_⟩
  refine pk_eq (N (12 + 10 * h + 1)) 0 (fun e => HT (Or.inl e)) (fun e => ?_)
  refine q_ofPart q p 0 hp (by decide) ?_
  have hx : (1 : Int32) + nI (N (92 + 8 * p + 0)) = nI (1 + N (92 + 8 * p)) := nI_add 1 _
  rw [hx]
  have hq := nI_eq (a := N (12 + 10 * h + 1)) (b := 1 + N (92 + 8 * p)) (by omega) (by omega)
  exact ⟨fun z => HF (fun t => t.elim e (fun t => z (hq.mpr t))), fun z => HT (Or.inr (hq.mp z))⟩
def rjN (N : Nat → Nat) (p c : Nat) : Nat → Nat := inc (up (up N (92 + 8 * p + 3) 3) (92 + 8 * p + 7) c) (5 + c)
theorem q_rejects {K : Mem → Prop} (q : Q A M N D) (p c : Nat) (hp : p < 60) (hc : c ≤ 5) (H : ∀ M', Q A M' (rjN N p c) D → K M') : w_X6_rejects 457 M 449 (nI p) (nI c) K :=
  ⟨k449, q_put q p 3 3 hp (by decide) rfl (fun M1 q => q_put q p 7 c hp (by decide) rfl (fun M2 q => q_r0 q (q_inc q (5 + c) (ixA 5 c) (by omega) H)))⟩
def tbN (N : Nat → Nat) (p : Nat) : Nat → Nat := inc (up N (572 + N 11) p) 11
theorem q_toBack {K : Mem → Prop} (q : Q A M N D) (p : Nat) (hn : N 11 < 60) (H : ∀ M', Q A M' (tbN N p) D → K M') : w_X6_toBack 457 M 449 (nI p) K :=
  ⟨k449, q_r0 q (q_r0 q (q_rI q 11 rfl (by decide) (q_wI q (572 + N 11) p (ixA 572 (N 11)) (by omega) rfl (fun M2 q => q_r0 q (q_inc q 11 rfl (by decide) H)))))⟩
/-- the row moved up by one, above a place -/
def shN (N : Nat → Nat) (n i : Nat) : Nat → Nat := fun x => if 572 + i < x ∧ x ≤ 572 + n then N (x - 1) else N x
def tfN (N : Nat → Nat) (p : Nat) : Nat → Nat := up (inc (up (shN N (N 11) 0) 572 p) 11) (92 + 8 * p + 3) 0
theorem shN_n (N : Nat → Nat) (n : Nat) : shN N n n = N := by
  funext x
  exact if_neg (by omega)
theorem shN_step (N : Nat → Nat) (n i : Nat) (h : i < n) : up (shN N n (i + 1)) (572 + (i + 1)) (N (572 + i)) = shN N n i := by
  funext x
  unfold shN up
  by_cases e : x = 572 + (i + 1)
  · rw [if_pos e, if_pos (by omega), e]; congr 1
  · rw [if_neg e]
    dsimp only
    by_cases f : 572 + i < x ∧ x ≤ 572 + n
    · rw [if_pos f, if_pos (by omega)]
    · rw [if_neg f, if_neg (by omega)]
theorem q_toFront {K : Mem → Prop} (q : Q A M N D) (p : Nat) (hp : p < 60) (hn : N 11 < 60) (H : ∀ M', Q A M' (tfN N p) D → K M') : w_X6_toFront 457 M 449 (nI p) K := by
  refine ⟨k449, q_r0 q (q_rI q 11 rfl (by decide) (fun x4 hx4 => ?_))⟩
  have hx : x4 = nI (572 + N 11) := hx4.trans (ixA 572 (N 11))
  rw [hx]
  have L : ∀ (fuel i : Nat) (M : Mem), i ≤ N 11 → i < fuel → Q A M (shN N (N 11) i) D → w_X6_toFront_L12 457 K fuel M 449 (nI p) (nI (572 + i)) := by
    intro fuel
    induction fuel with
    | zero => intro i M _ h; omega
    | succ fuel ih =>
      intro i M hi hf q
      cases i with
      | zero =>
        refine pk_le 572 572 (fun _ => ?_) (fun z => absurd z (by decide))
        refine ⟨k449, q_r0 q (q_wI q 572 p rfl (by decide) rfl (fun M2 q => q_r0 q (q_inc q 11 rfl (by decide) (fun M3 q => q_put q p 3 0 hp (by decide) rfl H))))⟩
      | succ i =>
        refine pk_le (572 + (i + 1)) 572 (fun z => absurd z (by omega)) (fun _ => ?_)
        have e1 : nI (572 + (i + 1)) - 1 = nI (572 + i) := nI_pred (572 + i)
        refine ⟨k449, q_r0 q (q_r0 q (q_rI q (572 + i) e1 (by omega) (q_wI q (572 + (i + 1)) (N (572 + i)) rfl (by omega) ?_ (fun M2 q x hx => ?_))))⟩
        · show nI (shN N (N 11) (i + 1) (572 + i)) = _
          unfold shN
          rw [if_neg (by omega)]
        · rw [hx, show nI (572 + (i + 1)) + (-1 : Int32) = nI (572 + i) from pk_m1 (572 + i)]
          rw [shN_step N (N 11) i (by omega)] at q
          exact ih i M2 (by omega) (by omega) q
  exact L 4000 (N 11) M (Nat.le_refl _) (by omega) (by rw [shN_n]; exact q)
/-- the cells of a part, all 0 -/
def zpN (N : Nat → Nat) (p k : Nat) : Nat → Nat := fun x => if 92 + 8 * p ≤ x ∧ x < 92 + 8 * p + k then 0 else N x
def adN (N : Nat → Nat) (a b c : Nat) : Nat → Nat := tbN (inc (up (up (up (zpN N (N 2) 8) (92 + 8 * N 2 + 0) a) (92 + 8 * N 2 + 1) b) (92 + 8 * N 2 + 2) c) 2) (N 2)
theorem q_adds {K : Mem → Prop} (q : Q A M N D) (a b c : Nat) (hp : N 2 < 60) (hn : N 11 < 60) (H : ∀ M', Q A M' (adN N a b c) D → K M') : w_X6_adds 457 M 449 (nI a) (nI b) (nI c) K := by
  refine ⟨k449, q_r0 q (q_rI q 2 rfl (by decide) ?_)⟩
  have L : ∀ (fuel i : Nat) (M : Mem), i ≤ 8 → 8 - i < fuel → Q A M (zpN N (N 2) i) D → w_X6_adds_L11 457 K fuel M 449 (nI a) (nI b) (nI c) (nI (N 2)) (nI i) := by
    intro fuel
    induction fuel with
    | zero => intro i M _ h; omega
    | succ fuel ih =>
      intro i M hi hf q
      refine pk_le 8 i (fun z => ?_) (fun z => ?_)
      · obtain rfl : i = 8 := by omega
        refine ⟨k449, q_put q (N 2) 0 a hp (by decide) rfl (fun M1 q => q_put q (N 2) 1 b hp (by decide) rfl (fun M2 q => q_put q (N 2) 2 c hp (by decide) rfl (fun M3 q => q_r0 q (q_inc q 2 rfl (by decide) (fun M4 q => q_toBack q (N 2) ?_ H)))))⟩
        rw [inc_ne (by decide), up_ne (by omega), up_ne (by omega), up_ne (by omega)]
        unfold zpN
        rw [if_neg (by omega)]
        exact hn
      · refine ⟨k449, q_put q (N 2) i 0 hp (by omega) rfl (fun M1 q x hx => ?_)⟩
        rw [hx, show nI i + (1 : Int32) = nI (i + 1) from nI_1 i]
        refine ih (i + 1) M1 (by omega) (by omega) ?_
        have e : up (zpN N (N 2) i) (92 + 8 * N 2 + i) 0 = zpN N (N 2) (i + 1) := by
          funext x
          unfold zpN up
          by_cases e : x = 92 + 8 * N 2 + i
          · rw [if_pos e, if_pos (by omega)]
          · rw [if_neg e]
            dsimp only
            by_cases f : 92 + 8 * N 2 ≤ x ∧ x < 92 + 8 * N 2 + i
            · rw [if_pos f, if_pos (by omega)]
            · rw [if_neg f, if_neg (by omega)]
        rw [← e]; exact q
  refine L 4000 0 M (by omega) (by omega) ?_
  have e : zpN N (N 2) 0 = N := by
    funext x
    exact if_neg (by omega)
  rw [e]; exact q
