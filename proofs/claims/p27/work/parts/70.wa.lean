/-! p27, 1: what a state keeps beside WF: parts that were tested, heads' sums, traces as long as the way from the station -/
variable {h p t a b b' : Nat} {N N' P P' : Nat → Nat} {D D' : Nat → UInt64}
def WX (N : Nat → Nat) (D : Nat → UInt64) (p : Nat) : Prop := (N (92 + 8 * p + 3) = 3 → N (92 + 8 * p + 7) ≠ 0) ∧ (N (92 + 8 * p + 6) = 0 ↔ N (92 + 8 * p + 4) = 0) ∧ N (92 + 8 * p + 5) ≤ N (92 + 8 * p + 4) ∧ (N (92 + 8 * p + 4) ≠ 0 → vf_n64 (D (99 + p)) ∧ (N (92 + 8 * p + 1) = 0 → D (99 + p) = 0))
def WY (N : Nat → Nat) (D : Nat → UInt64) (h : Nat) : Prop := N (12 + 10 * h + 2) ≤ N (12 + 10 * h + 4) ∧ N (12 + 10 * h + 4) = N (12 + 10 * h + 5) + N (12 + 10 * h + 6) + N (12 + 10 * h + 7) ∧ (D (4 + 12 * h)).toNat < 2 ^ 63
def WT (N : Nat → Nat) (h : Nat) : Prop := N (12 + 10 * h + 3) ≠ 0 → N (12 + 10 * h + 8) = dst N h
def WS (N : Nat → Nat) : Prop := sm (fun q => N (92 + 8 * q + 4)) (N 2) = N 4 ∧ sm (fun h => N (12 + 10 * h + 5)) 8 = cnt (fun q => N (92 + 8 * q + 3)) 2 (N 2) ∧ sm (fun h => N (12 + 10 * h + 6)) 8 + N 10 = cnt (fun q => N (92 + 8 * q + 3)) 3 (N 2)
/-- a: the head whose trace is not looked at (8: none) -/
def WE (N : Nat → Nat) (D : Nat → UInt64) (a : Nat) : Prop := (∀ p, p < N 2 → WX N D p) ∧ (∀ h, h < N 0 → WY N D h) ∧ (∀ h, h < N 0 → h ≠ a → WT N h) ∧ WS N
theorem WE.but (w : WE N D 8) (h8 : N 0 ≤ 8) (a : Nat) : WE N D a := ⟨w.1, w.2.1, fun h hh _ => w.2.2.1 h hh (by omega), w.2.2.2⟩
theorem we_upd (w : WE N D a) (h8 : N 0 ≤ 8) (h60 : N 2 ≤ 60) (hh : h < N 0) (hp : p < N 2)
    (n1 : ∀ j, j ≤ 3 → N' j = N j) (n2 : ∀ h', h' < 8 → h' ≠ h → ∀ k, k < 10 → N' (12 + 10 * h' + k) = N (12 + 10 * h' + k)) (n3 : ∀ q, q < 60 → q ≠ p → ∀ k, k < 8 → N' (92 + 8 * q + k) = N (92 + 8 * q + k))
    (d2 : ∀ h', h' < 8 → h' ≠ h → D' (4 + 12 * h') = D (4 + 12 * h')) (d3 : ∀ q, q < 60 → q ≠ p → D' (99 + q) = D (99 + q))
    (hX : WX N' D' p) (hY : WY N' D' h) (hT : h = a ∨ WT N' h)
    (s1 : N' 4 + N (92 + 8 * p + 4) = N 4 + N' (92 + 8 * p + 4))
    (s2 : N' (12 + 10 * h + 5) + (if N (92 + 8 * p + 3) = 2 then 1 else 0) = N (12 + 10 * h + 5) + (if N' (92 + 8 * p + 3) = 2 then 1 else 0))
    (s3 : N' (12 + 10 * h + 6) + N' 10 + (if N (92 + 8 * p + 3) = 3 then 1 else 0) = N (12 + 10 * h + 6) + N 10 + (if N' (92 + 8 * p + 3) = 3 then 1 else 0)) : WE N' D' a := by
  obtain ⟨x, y, tt, ⟨t1, t2, t3⟩⟩ := w
  have z0 := n1 0 (by decide)
  have z1 := n1 1 (by decide)
  have z2 := n1 2 (by decide)
  have sA : stA N' = stA N := by unfold stA; rw [z0, z1]
  have dS : ∀ h, dst N' h = dst N h := fun h => by unfold dst; rw [sA, z0]
  refine ⟨fun q hq => ?_, fun h' hh' => ?_, fun h' hh' ha => ?_, ?_, ?_, ?_⟩
  · rw [z2] at hq
    by_cases e : q = p
    · rw [e]; exact hX
    · have g := n3 q (by omega) e
      unfold WX
      rw [g 1 (by decide), g 3 (by decide), g 4 (by decide), g 5 (by decide), g 6 (by decide), g 7 (by decide), d3 q (by omega) e]
      exact x q hq
  · rw [z0] at hh'
    by_cases e : h' = h
    · rw [e]; exact hY
    · have g := n2 h' (by omega) e
      unfold WY
      rw [g 2 (by decide), g 4 (by decide), g 5 (by decide), g 6 (by decide), g 7 (by decide), d2 h' (by omega) e]
      exact y h' hh'
  · rw [z0] at hh'
    by_cases e : h' = h
    · rw [e]; exact hT.resolve_left (fun q => ha (e.trans q))
    · have g := n2 h' (by omega) e
      unfold WT
      rw [g 3 (by decide), g 8 (by decide), dS]
      exact tt h' hh' ha
  · have e := sm_upd (fun q => N (92 + 8 * q + 4)) (fun q => N' (92 + 8 * q + 4)) p (N 2) hp (fun q hq hn => n3 q (by omega) hn 4 (by decide))
    rw [z2]
    show sm (fun q => N' (92 + 8 * q + 4)) (N 2) = N' 4
    omega
  · have e := sm_upd (fun h => N (12 + 10 * h + 5)) (fun h => N' (12 + 10 * h + 5)) h 8 (by omega) (fun q hq hn => n2 q hq hn 5 (by decide))
    have f := cnt_upd (fun q => N (92 + 8 * q + 3)) (fun q => N' (92 + 8 * q + 3)) 2 p (N 2) hp (fun q hq hn => n3 q (by omega) hn 3 (by decide))
    rw [z2]
    omega
  · have e := sm_upd (fun h => N (12 + 10 * h + 6)) (fun h => N' (12 + 10 * h + 6)) h 8 (by omega) (fun q hq hn => n2 q hq hn 6 (by decide))
    have f := cnt_upd (fun q => N (92 + 8 * q + 3)) (fun q => N' (92 + 8 * q + 3)) 3 p (N 2) hp (fun q hq hn => n3 q (by omega) hn 3 (by decide))
    rw [z2]
    omega
/-! zeros -/
theorem U0 : U 0 = 0 := by decide +kernel
theorem u64_0 {x : UInt64} (h : x.toNat ≤ 0) : x = 0 := UInt64.toNat_inj.mp (by have : (0 : UInt64).toNat = 0 := rfl; omega)
theorem mul0 {x y : UInt64} (hx : x = 0) (hy : NF y) : FP.dmul x y = 0 := by
  subst hx
  refine u64_0 (mul_le (by unfold NF; decide) hy 0 ?_)
  rw [show (0 : UInt64).toNat = 0 from rfl, U0]; omega
theorem div0 {x y : UInt64} (hx : x = 0) (hy : NF y) (y0 : 0 < y.toNat) : FP.ddiv x y = 0 := by
  subst hx
  refine u64_0 (div_le (by unfold NF; decide) hy y0 0 ?_)
  rw [show (0 : UInt64).toNat = 0 from rfl, U0]; omega
theorem sub_self0 {x : UInt64} (hx : NF x) : FP.dsub x x = 0 := u64_0 (sub_ub hx hx (Nat.le_refl _) 0 (by rw [U0]; omega))
theorem i2d0 : FP.i2d (nI 0) = 0 := by decide +kernel
theorem mul0r {x : UInt64} (hx : NF x) : FP.dmul x 0 = 0 := by
  refine u64_0 (mul_le hx (by unfold NF; decide) 0 ?_)
  rw [show (0 : UInt64).toNat = 0 from rfl, U0]; omega
theorem sub0r {x : UInt64} (hx : NF x) : FP.dsub x 0 = x := by
  have h0 : NF (0 : UInt64) := by unfold NF; decide
  have z : (0 : UInt64).toNat = 0 := rfl
  have h1 := sub_le hx h0 (by rw [z]; omega)
  have h2 := sub_ge hx h0 (by rw [z]; omega) x.toNat (by unfold NF at hx; omega) (by rw [z, U0]; omega)
  exact UInt64.toNat_inj.mp (by omega)
theorem dcz_nf {x : UInt64} (hx : NF x) : dcz x = x := by
  unfold dcz
  by_cases c : 0 ≤ Op.cmpValue (FP.dcmp x FP.dconst0) CmpOp.g
  · exact if_pos c
  · refine absurd ?_ c
    have nn : ¬ FP.Core.dcmp x FP.dconst0 = some .lt := by
      intro e
      have := (FP.Core.dcmp_lt_key ((FP.Core.ne_nan x).mpr (by unfold NF at hx; rw [Nat.mod_eq_of_lt (by omega)]; omega)) ((FP.Core.ne_nan FP.dconst0).mpr (by decide))).mp e
      unfold FP.Core.dkey at this
      unfold NF at hx
      rw [if_neg (by omega), if_neg (by decide)] at this
      have h0 : FP.dconst0.toNat = 0 := rfl
      omega
    show 0 ≤ Op.cmpValue (FP.Core.dcmp x FP.dconst0) CmpOp.g
    rcases hd : FP.Core.dcmp x FP.dconst0 with _ | o
    · decide
    · cases o
      · exact absurd hd nn
      · decide
      · decide
theorem dec1_0 {p : UInt64} {vol : Nat} (h : PZ p) (h1 : 1 ≤ vol) (h2 : vol ≤ 999) : dec1 (nI 0) (BY vol) p = p := by
  obtain ⟨b1, b2⟩ := by_b h1 h2
  have pn := (pz_k h).2
  unfold dec1
  rw [i2d0, mul0r pn, div0 rfl (by unfold NF; omega) (by omega), sub0r pn]
  exact dcz_nf pn
theorem decn_0 {p : UInt64} {vol : Nat} (h : PZ p) (h1 : 1 ≤ vol) (h2 : vol ≤ 999) : ∀ n, decn (nI 0) (BY vol) p n = p := by
  intro n
  induction n with
  | zero => rfl
  | succ n ih =>
    show dec1 (nI 0) (BY vol) (decn (nI 0) (BY vol) p n) = p
    rw [ih]; exact dec1_0 h h1 h2
theorem fr_nf {f : UInt64} (hf : FR f) (h : f.toNat < 2 ^ 63) : NF f := by
  unfold FR at hf
  rw [e52, Nat.mod_eq_of_lt h] at hf
  unfold NF
  omega
theorem vlE_0 {x g f : UInt64} {vol n m : Nat} (hx : PZ x) (hv : vol ≤ 999) (h1 : 1 ≤ n) (h7 : n ≤ 7) (hg : GR m g) (hf : NF f) : vlE x x g f vol n = 0 := by
  have i1 := i2d_nf vol (by omega)
  have i2 := i2d_nf n (by omega)
  have i3 := i2d_ge n h1 (by omega)
  have gn : NF g := by obtain ⟨-, g2⟩ := hg; unfold NF; omega
  unfold vlE
  rw [sub_self0 (pz_k hx).2, mul0 rfl (by unfold NF; omega), div0 rfl (by unfold NF; omega) (by omega), mul0 rfl gn, mul0 rfl hf]
/-- what stands in the way of a test's end -/
theorem vl_ok (w : WF N D P b) (y : WY N D h) (hh : h < N 0) (h3 : N (12 + 10 * h + 3) = p + 1) : vf_n64 (vl N D h p (N (12 + 10 * h + 8) - 1)) ∧ (N (92 + 8 * p + 1) = 0 → vl N D h p (N (12 + 10 * h + 8) - 1) = 0) := by
  obtain ⟨⟨g0, g8, g1, g2, g31, g3, g4, g5⟩, r, wh, wo, wz, wd, wq, L, C⟩ := id w
  obtain ⟨o1, o2, o3, o4, o5, o6⟩ := wo h hh (by omega)
  obtain ⟨a0, a1, a2, a3, a4, a5, a6, a7, a8⟩ := wh h hh
  have hp : p < N 2 := by omega
  obtain ⟨q0, q1, q2, q3, -⟩ := wq p hp
  have tr := WO.tr (wo h hh) (by omega)
  rw [h3, Nat.add_sub_cancel] at tr
  refine ⟨(val_ok (o5 0 (by omega)) (o5 _ (by omega)) q3 (by omega) (by omega) a7 a8).2.2.2.2, fun e => ?_⟩
  unfold vl
  have t1 := tr (N (12 + 10 * h + 8) - 1) (by omega)
  rw [e, decn_0 (o5 0 (by omega)) q2 q3] at t1
  rw [← t1]
  exact vlE_0 (o5 0 (by omega)) q3 (by omega) (by omega) a7 (fr_nf a8 y.2.2)
theorem we_ends (w : WF N D P b) (e : WE N D a) (hh : h < N 0) (h3 : N (12 + 10 * h + 3) = p + 1) (ht : t = N (12 + 10 * h + 8) - 1) : WE (enN N D h p t) (enD N D h p t) a := by
  obtain ⟨⟨g0, g8, g1, g2, g31, g3, g4, g5⟩, r, wh, wo, wz, wd, wq, L, ⟨k0, k1, k2, k3, k4⟩⟩ := id w
  obtain ⟨o1, o2, o3, o4, o5, o6⟩ := wo h hh (by omega)
  have hp : p < N 2 := by omega
  have st : N (92 + 8 * p + 3) = 1 := by
    have := o2
    rw [h3, Nat.add_sub_cancel] at this
    exact this
  obtain ⟨q0, q1, q2, q3, q4, q5, q6, q7, q8, q9⟩ := wq p hp
  have q9 := q9 (by omega)
  have L0 := L.1
  obtain ⟨x1, x2, x3, x4⟩ := e.1 p hp
  obtain ⟨y1, y2, y3⟩ := e.2.1 h hh
  obtain ⟨v1, v2⟩ := vl_ok w (e.2.1 h hh) hh h3
  rw [← ht] at v1 v2
  have hs := jd_le (eA0 N h p) (eD0 N D h p t) h t (vl N D h p t)
  change eJ N D h p t = 0 ∨ eJ N D h p t = 1 ∨ eJ N D h p t = 2 ∨ eJ N D h p t = 13 ∨ eJ N D h p t = 14 at hs
  have D1 : ∀ h', h' < 8 → h' ≠ h → enD N D h p t (4 + 12 * h') = D (4 + 12 * h') := fun h' h8 hn => by simp (disch := omega) only [enD, eD0, up_ne]
  have D2 : ∀ q, q < 60 → q ≠ p → enD N D h p t (99 + q) = D (99 + q) := fun q h8 hn => by simp (disch := omega) only [enD, eD0, up_ne]
  have D3 : enD N D h p t (99 + p) = vl N D h p t := by simp (disch := omega) only [enD, eD0, up_ne, up_eq]
  have D4 : enD N D h p t (4 + 12 * h) = D (4 + 12 * h) := by simp (disch := omega) only [enD, eD0, up_ne]
  unfold enN
  split
  · refine we_upd e g8 g2 hh hp ?_ ?_ ?_ D1 D2 ?_ ?_ (Or.inr ?_) ?_ ?_ ?_
    · intro j hj
      simp (disch := omega) only [enA, enR, enT, rjN, tfN, eA, eA0, up_eq, up_ne, inc_eq, inc_ne, shN_lo]
    · intro h' hh' hn k hk
      simp (disch := omega) only [enA, enR, enT, rjN, tfN, eA, eA0, up_eq, up_ne, inc_eq, inc_ne, shN_lo]
    · intro q hq qn k hk
      simp (disch := omega) only [enA, enR, enT, rjN, tfN, eA, eA0, up_eq, up_ne, inc_eq, inc_ne, shN_lo]
    · unfold WX
      rw [D3]
      simp (disch := omega) only [enA, enR, enT, rjN, tfN, eA, eA0, up_eq, up_ne, inc_eq, inc_ne, shN_lo]
      exact ⟨by omega, by omega, by omega, fun _ => ⟨v1, v2⟩⟩
    · unfold WY
      rw [D4]
      simp (disch := omega) only [enA, enR, enT, rjN, tfN, eA, eA0, up_eq, up_ne, inc_eq, inc_ne, shN_lo]
      exact ⟨by omega, by omega, y3⟩
    · intro z
      refine absurd ?_ z
      simp (disch := omega) only [enA, enR, enT, rjN, tfN, eA, eA0, up_eq, up_ne, inc_eq, inc_ne, shN_lo]
    · simp (disch := omega) only [enA, enR, enT, rjN, tfN, eA, eA0, up_eq, up_ne, inc_eq, inc_ne, shN_lo]
      omega
    · simp (disch := omega) only [enA, enR, enT, rjN, tfN, eA, eA0, up_eq, up_ne, inc_eq, inc_ne, shN_lo]
      rw [st]; simp
    · simp (disch := omega) only [enA, enR, enT, rjN, tfN, eA, eA0, up_eq, up_ne, inc_eq, inc_ne, shN_lo]
      rw [st]; simp
  · split
    · have e0 : eJ N D h p t ≠ 0 := by assumption
      have c5 : eJ N D h p t % 10 ≤ 5 := by omega
      have c0 : eJ N D h p t % 10 ≠ 0 := by omega
      have c9 : eJ N D h p t % 10 ≠ 5 := by omega
      generalize eJ N D h p t % 10 = c at c5 c0 c9 ⊢
      refine we_upd e g8 g2 hh hp ?_ ?_ ?_ D1 D2 ?_ ?_ (Or.inr ?_) ?_ ?_ ?_
      · intro j hj
        simp (disch := omega) only [enA, enR, enT, rjN, tfN, eA, eA0, up_eq, up_ne, inc_eq, inc_ne, shN_lo]
      · intro h' hh' hn k hk
        simp (disch := omega) only [enA, enR, enT, rjN, tfN, eA, eA0, up_eq, up_ne, inc_eq, inc_ne, shN_lo]
      · intro q hq qn k hk
        simp (disch := omega) only [enA, enR, enT, rjN, tfN, eA, eA0, up_eq, up_ne, inc_eq, inc_ne, shN_lo]
      · unfold WX
        rw [D3]
        simp (disch := omega) only [enA, enR, enT, rjN, tfN, eA, eA0, up_eq, up_ne, inc_eq, inc_ne, shN_lo]
        exact ⟨by omega, by omega, by omega, fun _ => ⟨v1, v2⟩⟩
      · unfold WY
        rw [D4]
        simp (disch := omega) only [enA, enR, enT, rjN, tfN, eA, eA0, up_eq, up_ne, inc_eq, inc_ne, shN_lo]
        exact ⟨by omega, by omega, y3⟩
      · intro z
        refine absurd ?_ z
        simp (disch := omega) only [enA, enR, enT, rjN, tfN, eA, eA0, up_eq, up_ne, inc_eq, inc_ne, shN_lo]
      · simp (disch := omega) only [enA, enR, enT, rjN, tfN, eA, eA0, up_eq, up_ne, inc_eq, inc_ne, shN_lo]
        omega
      · simp (disch := omega) only [enA, enR, enT, rjN, tfN, eA, eA0, up_eq, up_ne, inc_eq, inc_ne, shN_lo]
        rw [st]; simp
      · simp (disch := omega) only [enA, enR, enT, rjN, tfN, eA, eA0, up_eq, up_ne, inc_eq, inc_ne, shN_lo]
        rw [st]; simp; omega
    · refine we_upd e g8 g2 hh hp ?_ ?_ ?_ D1 D2 ?_ ?_ (Or.inr ?_) ?_ ?_ ?_
      · intro j hj
        simp (disch := omega) only [enA, enR, enT, rjN, tfN, eA, eA0, up_eq, up_ne, inc_eq, inc_ne, shN_lo]
      · intro h' hh' hn k hk
        simp (disch := omega) only [enA, enR, enT, rjN, tfN, eA, eA0, up_eq, up_ne, inc_eq, inc_ne, shN_lo]
      · intro q hq qn k hk
        simp (disch := omega) only [enA, enR, enT, rjN, tfN, eA, eA0, up_eq, up_ne, inc_eq, inc_ne, shN_lo]
      · unfold WX
        rw [D3]
        simp (disch := omega) only [enA, enR, enT, rjN, tfN, eA, eA0, up_eq, up_ne, inc_eq, inc_ne, shN_lo]
        exact ⟨by omega, by omega, by omega, fun _ => ⟨v1, v2⟩⟩
      · unfold WY
        rw [D4]
        simp (disch := omega) only [enA, enR, enT, rjN, tfN, eA, eA0, up_eq, up_ne, inc_eq, inc_ne, shN_lo]
        exact ⟨by omega, by omega, y3⟩
      · intro z
        refine absurd ?_ z
        simp (disch := omega) only [enA, enR, enT, rjN, tfN, eA, eA0, up_eq, up_ne, inc_eq, inc_ne, shN_lo]
      · simp (disch := omega) only [enA, enR, enT, rjN, tfN, eA, eA0, up_eq, up_ne, inc_eq, inc_ne, shN_lo]
        omega
      · simp (disch := omega) only [enA, enR, enT, rjN, tfN, eA, eA0, up_eq, up_ne, inc_eq, inc_ne, shN_lo]
        rw [st]; simp
      · simp (disch := omega) only [enA, enR, enT, rjN, tfN, eA, eA0, up_eq, up_ne, inc_eq, inc_ne, shN_lo]
        rw [st]; simp
