/-! THE PURE PART, 10: a carousel and the reference's numbers -/
variable {zz : Nat}
variable {M M' : Mem} {c h p : Nat} {N N' P P' : Nat → Nat} {D D' : Nat → UInt64}
def hp (x : Nat) : Int32 := if x = 0 then -5 else nI (x - 1)
def cp (x : Nat) : Int32 := if x = 0 then -5 else nI x
def HI (M : Mem) (c : Nat) (N : Nat → Nat) (h : Nat) : Prop := gI M (c + 5 + h) 3 = nI (N (12 + 10 * h + 0)) ∧ gI M (c + 5 + h) 4 = nI (N (12 + 10 * h + 1)) ∧ gI M (c + 5 + h) 5 = nI (N (12 + 10 * h + 2)) ∧ gI M (c + 5 + h) 6 = hp (N (12 + 10 * h + 3)) ∧ gI M (c + 5 + h) 10 = nI (N (12 + 10 * h + 4)) ∧ gI M (c + 5 + h) 11 = nI (N (12 + 10 * h + 5)) ∧ gI M (c + 5 + h) 12 = nI (N (12 + 10 * h + 6)) ∧ gI M (c + 5 + h) 13 = nI (N (12 + 10 * h + 7))
def HD (M : Mem) (c : Nat) (N : Nat → Nat) (D : Nat → UInt64) (h : Nat) : Prop := gD M (c + 5 + h) 1 = D (3 + 12 * h) ∧ gD M (c + 5 + h) 2 = D (4 + 12 * h) ∧ (N (12 + 10 * h + 3) ≠ 0 → gD M (c + 5 + h) 7 = D (5 + 12 * h + 0) ∧ gD M (c + 5 + h) 8 = D (5 + 12 * h + (N (12 + 10 * h + 8) - 1)) ∧ gI M (c + 5 + h) 9 = nI (N (12 + 10 * h + 8) - 1))
def PC (M : Mem) (c : Nat) (N : Nat → Nat) (D : Nat → UInt64) (P : Nat → Nat) (p : Nat) : Prop := gI M (c + 14 + p) 1 = nI (N (92 + 8 * p + 0)) ∧ gI M (c + 14 + p) 2 = nI (N (92 + 8 * p + 1)) ∧ gI M (c + 14 + p) 3 = nI (N (92 + 8 * p + 2)) ∧ gI M (c + 14 + p) 4 = nI (N (92 + 8 * p + 3)) ∧ (gI M (c + 14 + p) 5 = if N (92 + 8 * p + 3) = 0 then nI (P p) else -5) ∧ gI M (c + 14 + p) 6 = nI (N (92 + 8 * p + 4)) ∧ gI M (c + 14 + p) 7 = nI (N (92 + 8 * p + 5)) ∧ gI M (c + 14 + p) 8 = hp (N (92 + 8 * p + 6)) ∧ gI M (c + 14 + p) 10 = cp (N (92 + 8 * p + 7)) ∧ (N (92 + 8 * p + 4) ≠ 0 → gD M (c + 14 + p) 9 = D (99 + p))
def PA (M : Mem) (c p : Nat) : Prop := gI M (c + 14 + p) 4 = -1 ∧ gI M (c + 14 + p) 10 = -5 ∧ (gI M (c + 14 + p) 1 = 0 ∨ gI M (c + 14 + p) 1 = 1)
def CS (M : Mem) (c : Nat) (N : Nat → Nat) : Prop := gI M c 5 = nI (N 3) ∧ gI M c 6 = nI (N 0) ∧ gI M c 7 = nI (N 2) ∧ gI M c 8 = nI (N 1) ∧ gI M c 9 = nI (N 1 % N 0)
def CP (M : Mem) (c : Nat) (D : Nat → UInt64) : Prop := ∀ i, i < 3 → gL M (c + 1 + i) 2 = (D i).toInt64 ∧ gD M (c + 1 + i) 3 = D i
def CR (M : Mem) (c : Nat) (N : Nat → Nat) (D : Nat → UInt64) (P : Nat → Nat) : Prop := Sh M c ∧ CS M c N ∧ CP M c D ∧ (∀ h, h < 8 → HI M c N h) ∧ (∀ h, h < N 0 → HD M c N D h) ∧ (∀ p, p < N 2 → PC M c N D P p) ∧ ∀ p, N 2 ≤ p → p < 60 → PA M c p
/-- only a carousel's own cells have changed -/
def OnC (c : Nat) (M M' : Mem) : Prop := (∀ r k, (r < c ∨ c + 74 ≤ r) → gI M' r k = gI M r k) ∧ (∀ r k, (r < c ∨ c + 74 ≤ r) → gD M' r k = gD M r k) ∧ (∀ r k, (r < c ∨ c + 74 ≤ r) → gL M' r k = gL M r k) ∧ M'.2.2.2 = M.2.2.2
theorem OnC.rf (c : Nat) (M : Mem) : OnC c M M := ⟨fun _ _ _ => rfl, fun _ _ _ => rfl, fun _ _ _ => rfl, rfl⟩
theorem OnC.trans {A B C : Mem} (h : OnC c A B) (g : OnC c B C) : OnC c A C := ⟨fun r k q => (g.1 r k q).trans (h.1 r k q), fun r k q => (g.2.1 r k q).trans (h.2.1 r k q), fun r k q => (g.2.2.1 r k q).trans (h.2.2.1 r k q), g.2.2.2.trans h.2.2.2⟩
theorem OnC.gR {A B : Mem} (h : OnC c A B) (r k : Nat) : gR B r k = gR A r k := congrFun (congrFun h.2.2.2 r) k
theorem onC_I {r k : Nat} {v : Int32} (h1 : c ≤ r) (h2 : r < c + 74) : OnC c M (sI M r k v) := ⟨fun a j q => gI_ne (Or.inl (by omega)), fun _ _ _ => rfl, fun _ _ _ => rfl, rfl⟩
theorem onC_D {r k : Nat} {v : UInt64} (h1 : c ≤ r) (h2 : r < c + 74) : OnC c M (sD M r k v) := ⟨fun _ _ _ => rfl, fun a j q => gD_ne (Or.inl (by omega)), fun _ _ _ => rfl, rfl⟩
theorem onC_L {r k : Nat} {v : Int64} (h1 : c ≤ r) (h2 : r < c + 74) : OnC c M (sL M r k v) := ⟨fun _ _ _ => rfl, fun _ _ _ => rfl, fun a j q => by rw [gL_sL, if_neg (by omega)], rfl⟩
theorem onC_bk {a n : Nat} {FI : Nat → Nat → Int32} {FD : Nat → Nat → UInt64} (h1 : c ≤ a) (h2 : a + n ≤ c + 74) : OnC c M (bkM M a n FI FD) := ⟨fun r j q => gI_bkN (by omega), fun r j q => gD_bkN (by omega), fun _ _ _ => rfl, rfl⟩
theorem OnC.mI {A : Mem} {r k : Nat} {v : Int32} (o : OnC c A M) (h1 : c ≤ r) (h2 : r < c + 74) : OnC c A (sI M r k v) := o.trans (onC_I h1 h2)
theorem OnC.mD {A : Mem} {r k : Nat} {v : UInt64} (o : OnC c A M) (h1 : c ≤ r) (h2 : r < c + 74) : OnC c A (sD M r k v) := o.trans (onC_D h1 h2)
theorem OnC.mL {A : Mem} {r k : Nat} {v : Int64} (o : OnC c A M) (h1 : c ≤ r) (h2 : r < c + 74) : OnC c A (sL M r k v) := o.trans (onC_L h1 h2)
theorem OnC.mB {A : Mem} {a n : Nat} {FI : Nat → Nat → Int32} {FD : Nat → Nat → UInt64} (o : OnC c A M) (h1 : c ≤ a) (h2 : a + n ≤ c + 74) : OnC c A (bkM M a n FI FD) := o.trans (onC_bk h1 h2)
/-- the shape stays -/
theorem Sh.to (S : Sh M c) (h1 : ∀ h, h < 8 → gI M' (c + 5 + h) 0 = gI M (c + 5 + h) 0) (h2 : ∀ p, p < 60 → gI M' (c + 14 + p) 0 = gI M (c + 14 + p) 0) (h3 : ∀ i k, i < 3 → k < 2 → gL M' (c + 1 + i) k = gL M (c + 1 + i) k) (h4 : M'.2.2.2 = M.2.2.2) : Sh M' c := by
  obtain ⟨C, r, hh, hq, l0, l1, l2, l3, l4, l5⟩ := S
  have e : ∀ r k, gR M' r k = gR M r k := fun r k => congrFun (congrFun h4 r) k
  refine ⟨C, by rw [e, e, e, e, e]; exact r, fun h hb => by rw [e, h1 h hb]; exact hh h hb, fun p hb => by rw [e, h2 p hb]; exact hq p hb, ?_⟩
  have q := fun i k hi hk => h3 i k hi hk
  exact ⟨(q 0 0 (by decide) (by decide)).trans l0, (q 0 1 (by decide) (by decide)).trans l1, (q 1 0 (by decide) (by decide)).trans l2, (q 1 1 (by decide) (by decide)).trans l3, (q 2 0 (by decide) (by decide)).trans l4, (q 2 1 (by decide) (by decide)).trans l5⟩
theorem hi_same (h : Nat) (m : ∀ k, gI M' (c + 5 + h) k = gI M (c + 5 + h) k) (n : ∀ k, k < 10 → N' (12 + 10 * h + k) = N (12 + 10 * h + k)) (H : HI M c N h) : HI M' c N' h := by
  unfold HI at H ⊢
  rw [m, m, m, m, m, m, m, m, n 0 (by decide), n 1 (by decide), n 2 (by decide), n 3 (by decide), n 4 (by decide), n 5 (by decide), n 6 (by decide), n 7 (by decide)]
  exact H
theorem hd_same (h : Nat) (t8 : N (12 + 10 * h + 3) ≠ 0 → N (12 + 10 * h + 8) - 1 < 10) (m : ∀ k, gI M' (c + 5 + h) k = gI M (c + 5 + h) k) (m2 : ∀ k, gD M' (c + 5 + h) k = gD M (c + 5 + h) k) (n : ∀ k, k < 10 → N' (12 + 10 * h + k) = N (12 + 10 * h + k)) (d : ∀ k, k < 12 → D' (3 + 12 * h + k) = D (3 + 12 * h + k)) (H : HD M c N D h) : HD M' c N' D' h := by
  obtain ⟨h1, h2, h3⟩ := H
  refine ⟨by rw [m2]; exact h1.trans (d 0 (by decide)).symm, by rw [m2, h2, show 4 + 12 * h = 3 + 12 * h + 1 by omega]; exact (d 1 (by decide)).symm, fun q => ?_⟩
  rw [n 3 (by decide)] at q
  have t := t8 q
  obtain ⟨a, b, e⟩ := h3 q
  refine ⟨?_, ?_, by rw [m, n 8 (by decide)]; exact e⟩
  · rw [m2, a, show 5 + 12 * h + 0 = 3 + 12 * h + 2 by omega]; exact (d 2 (by decide)).symm
  · rw [m2, b, n 8 (by decide), show 5 + 12 * h + (N (12 + 10 * h + 8) - 1) = 3 + 12 * h + (2 + (N (12 + 10 * h + 8) - 1)) by omega]; exact (d _ (by omega)).symm
theorem cr_upd (cr : CR M c N D P) (h p : Nat) (h0 : N 0 ≤ 8) (h2 : N 2 ≤ 60) (t8 : ∀ h, h < N 0 → N (12 + 10 * h + 3) ≠ 0 → N (12 + 10 * h + 8) - 1 < 10)
    (m1 : ∀ r k, c ≤ r → r ≠ c + 5 + h → r < c + 14 → gI M' r k = gI M r k) (m2 : ∀ r k, c ≤ r → r ≠ c + 5 + h → r < c + 14 → gD M' r k = gD M r k) (mL : M'.2.2 = M.2.2)
    (m3 : ∀ q, q < 60 → q ≠ p → ∀ k, k ≠ 5 → gI M' (c + 14 + q) k = gI M (c + 14 + q) k) (m3d : ∀ q, q < 60 → q ≠ p → ∀ k, gD M' (c + 14 + q) k = gD M (c + 14 + q) k)
    (m4 : gI M' (c + 5 + h) 0 = gI M (c + 5 + h) 0) (m5 : gI M' (c + 14 + p) 0 = gI M (c + 14 + p) 0)
    (n1 : ∀ j, j ≤ 3 → N' j = N j) (n2 : ∀ h', h' < 8 → h' ≠ h → ∀ k, k < 10 → N' (12 + 10 * h' + k) = N (12 + 10 * h' + k)) (n3 : ∀ q, q < 60 → q ≠ p → ∀ k, k < 8 → N' (92 + 8 * q + k) = N (92 + 8 * q + k))
    (d1 : ∀ j, j < 3 → D' j = D j) (d2 : ∀ h', h' < 8 → h' ≠ h → ∀ k, k < 12 → D' (3 + 12 * h' + k) = D (3 + 12 * h' + k)) (d3 : ∀ q, q < 60 → q ≠ p → D' (99 + q) = D (99 + q))
    (p1 : ∀ q, q < N 2 → q ≠ p → gI M' (c + 14 + q) 5 = if N (92 + 8 * q + 3) = 0 then nI (P' q) else -5)
    (hH : HI M' c N' h) (hD : h < N 0 → HD M' c N' D' h) (hP : PC M' c N' D' P' p) (hp : p < N 2) : CR M' c N' D' P' := by
  obtain ⟨S, ⟨s1, s2, s3, s4, s5⟩, cp, ch, cd, pc, pa⟩ := cr
  refine ⟨?_, ?_, ?_, ?_, ?_, ?_, ?_⟩
  · refine S.to (fun h' hh => ?_) (fun q hq => ?_) (fun i k hi hk => ?_) (congrArg Prod.snd mL)
    · by_cases e : h' = h
      · rw [e]; exact m4
      · exact m1 _ _ (by omega) (by omega) (by omega)
    · by_cases e : q = p
      · rw [e]; exact m5
      · exact m3 q hq e 0 (by decide)
    · exact congrFun (congrFun (congrArg Prod.fst mL) (c + 1 + i)) k
  · unfold CS
    rw [m1 c 5 (by omega) (by omega) (by omega), m1 c 6 (by omega) (by omega) (by omega), m1 c 7 (by omega) (by omega) (by omega), m1 c 8 (by omega) (by omega) (by omega), m1 c 9 (by omega) (by omega) (by omega), n1 0 (by decide), n1 1 (by decide), n1 2 (by decide), n1 3 (by decide)]
    exact ⟨s1, s2, s3, s4, s5⟩
  · intro i hi
    rw [d1 i hi, m2 _ _ (by omega) (by omega) (by omega)]
    exact ⟨(congrFun (congrFun (congrArg Prod.fst mL) (c + 1 + i)) 2).trans (cp i hi).1, (cp i hi).2⟩
  · intro h' hh
    by_cases e : h' = h
    · rw [e]; exact hH
    · exact hi_same h' (fun k => m1 _ _ (by omega) (by omega) (by omega)) (n2 h' hh e) (ch h' hh)
  · intro h' hh
    rw [n1 0 (by decide)] at hh
    by_cases e : h' = h
    · rw [e]; exact hD (by omega)
    · exact hd_same h' (t8 h' hh) (fun k => m1 _ _ (by omega) (by omega) (by omega)) (fun k => m2 _ _ (by omega) (by omega) (by omega)) (n2 h' (by omega) e) (d2 h' (by omega) e) (cd h' hh)
  · intro q hq
    rw [n1 2 (by decide)] at hq
    by_cases e : q = p
    · rw [e]; exact hP
    · have hh := pc q hq
      have g := m3 q (by omega) e
      have n := n3 q (by omega) e
      unfold PC at hh ⊢
      rw [g 1 (by decide), g 2 (by decide), g 3 (by decide), g 4 (by decide), g 6 (by decide), g 7 (by decide), g 8 (by decide), g 10 (by decide), m3d q (by omega) e 9, n 0 (by decide), n 1 (by decide), n 2 (by decide), n 3 (by decide), n 4 (by decide), n 5 (by decide), n 6 (by decide), n 7 (by decide), d3 q (by omega) e]
      exact ⟨hh.1, hh.2.1, hh.2.2.1, hh.2.2.2.1, p1 q hq e, hh.2.2.2.2.2⟩
  · intro q hq h6
    rw [n1 2 (by decide)] at hq
    have g := m3 q h6 (by omega)
    unfold PA
    rw [g 4 (by decide), g 10 (by decide), g 1 (by decide)]
    exact pa q hq h6
/-- the class's judgement -/
def jv (x8 x7 : UInt64) (a b : Nat) (v lo up : UInt64) : Nat := if 0 ≤ Op.cmpValue (FP.dcmp x8 (FP.ddiv x7 4611686018427387904)) CmpOp.g then (if a ≤ b then (if 0 < Op.cmpValue (FP.dcmp v lo) CmpOp.g then (if Op.cmpValue (FP.dcmp v up) CmpOp.l ≤ 0 then 13 else 2) else 0) else 14) else 1
theorem jd_jv (N : Nat → Nat) (D : Nat → UInt64) (h t : Nat) (v : UInt64) : jd N D h t v = jv (D (5 + 12 * h + t)) (D (5 + 12 * h + 0)) (N (12 + 10 * h + 2)) (N 3) v (D 1) (D 2) := rfl
def cz (s : Nat) : Int32 := if s = 0 then -5 else if s = 13 then 3 else if s = 14 then 4 else nI s
theorem c_cause {K : Int32 → Mem → Prop} (S : Sh M c) (h p : Nat) (hh : h < 8) (hp : p < 60) (a b : Nat) (ea : gI M (c + 5 + h) 5 = nI a) (eb : gI M c 5 = nI b) (ba : a < 2 ^ 31) (bb : b < 2 ^ 31) (hv : vf_n64 (FP.ddiv (gD M (c + 5 + h) 7) 4611686018427387904)) (H : K (cz (jv (gD M (c + 5 + h) 8) (gD M (c + 5 + h) 7) a b (gD M (c + 14 + p) 9) (gD M (c + 1 + 1) 3) (gD M (c + 1 + 2) 3))) M) : w_X0_causeAgainst (448 + zz) M c (c + 14 + p) (c + 5 + h) K := by
  obtain ⟨C, ⟨r0, r1, r2, r3, r4⟩, -⟩ := S
  refine ⟨kch (zz := zz) C h hh, hv, m_eq ?_⟩
  rw [ea, eb]
  unfold jv at H
  refine ⟨fun z => ⟨kc0 (zz := zz) C, ?_⟩, fun z => ?_⟩
  · rw [if_pos z] at H
    refine pk_le a b (fun y => ?_) (fun y => ?_) rfl rfl ba bb
    · rw [if_pos y] at H
      refine ⟨kcp (zz := zz) C p hp, m_rR r1 ⟨kcP (zz := zz) C 1 (by decide), fun x => ?_, fun x => ?_⟩⟩
      · rw [if_pos (show 0 < Op.cmpValue (FP.dcmp (gD M (c + 14 + p) 9) (gD M (c + 1 + 1) 3)) CmpOp.g from x)] at H
        refine m_rR r2 ⟨kcP (zz := zz) C 2 (by decide), fun w => ?_, fun w => ?_⟩
        · rw [if_pos (show Op.cmpValue (FP.dcmp (gD M (c + 14 + p) 9) (gD M (c + 1 + 2) 3)) CmpOp.l ≤ 0 from w)] at H; exact H
        · rw [if_neg (show ¬ Op.cmpValue (FP.dcmp (gD M (c + 14 + p) 9) (gD M (c + 1 + 2) 3)) CmpOp.l ≤ 0 from w)] at H; exact H
      · rw [if_neg (show ¬ 0 < Op.cmpValue (FP.dcmp (gD M (c + 14 + p) 9) (gD M (c + 1 + 1) 3)) CmpOp.g from x)] at H; exact H
    · rw [if_neg (by omega)] at H; exact H
  · rw [if_neg z] at H; exact H
theorem c_valueOf {K : UInt64 → Mem → Prop} (C : Car c) (h p : Nat) (hh : h < 8) (hp : p < 60) (d : UInt64) (vol n : Nat) (e1 : gI M (c + 14 + p) 3 = nI vol) (e2 : gI M c 6 = nI n) (h1 : 1 ≤ n) (f2 : vf_n64 (FP.dmul d (FP.i2d (nI vol)))) (f3 : vf_n64 (FP.ddiv (FP.dmul d (FP.i2d (nI vol))) (FP.i2d (nI (n - 1))))) (f4 : vf_n64 (FP.dmul (FP.ddiv (FP.dmul d (FP.i2d (nI vol))) (FP.i2d (nI (n - 1)))) (gD M (c + 5 + h) 1))) (f5 : vf_n64 (FP.dmul (FP.dmul (FP.ddiv (FP.dmul d (FP.i2d (nI vol))) (FP.i2d (nI (n - 1)))) (gD M (c + 5 + h) 1)) (gD M (c + 5 + h) 2))) (H : K (FP.dmul (FP.dmul (FP.ddiv (FP.dmul d (FP.i2d (nI vol))) (FP.i2d (nI (n - 1)))) (gD M (c + 5 + h) 1)) (gD M (c + 5 + h) 2)) M) : w_X0_valueOf (448 + zz) M c d (c + 14 + p) (c + 5 + h) K := by
  refine ⟨kcp (zz := zz) C p hp, ?_⟩
  rw [e1, e2, show nI n - (1 : Int32) = nI (n - 1) from pk_sub (b := 1) h1]
  exact ⟨f2, m_eq ⟨kc0 (zz := zz) C, f3, m_eq ⟨kch (zz := zz) C h hh, f4, m_eq ⟨f5, m_eq H⟩⟩⟩⟩

