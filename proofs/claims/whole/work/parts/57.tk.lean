/-! THE PURE PART, 35: the reference reads parts -/
variable {M M' A : Mem} {b b' c h p k k' tl tl' : Nat} {s s' z z' : S3} {Hs : Nat → S3} {f f' : Bool} {q tx tx' : Nat → Nat} {N N' P : Nat → Nat} {D D' : Nat → UInt64}
def On10 (M M' : Mem) (v : Int32) : Prop := (∀ r k, (r ≠ 449 ∨ k ≠ 10) → gI M' r k = gI M r k) ∧ gI M' 449 10 = v ∧ M'.2 = M.2
theorem on10_s (M : Mem) (v : Int32) : On10 M (sI M 449 10 v) v := ⟨fun r k h => gI_ne h, gI_eq, rfl⟩
theorem On10.then {A B C : Mem} {u v : Int32} (h : On10 A B u) (g : On10 B C v) : On10 A C v := ⟨fun r k q => (g.1 r k q).trans (h.1 r k q), g.2.1, g.2.2.trans h.2.2⟩
theorem On10.gR {A B : Mem} {u : Int32} (h : On10 A B u) (r k : Nat) : gR B r k = gR A r k := congrFun (congrFun (congrArg (fun x => x.2.2) h.2.2) r) k
theorem TR.o10 {v : Int32} (T : TR M tl tx) (o : On10 M M' v) : TR M' tl tx := ⟨(o.gR 449 9).trans T.1, (o.1 449 8 (Or.inr (by decide))).trans T.2.1, fun j hj => (o.1 456 j (Or.inl (by decide))).trans (T.2.2 j hj)⟩
theorem TR.s7 {j : Nat} {v : Int32} (T : TR M tl tx) : TR (sI M 457 j v) tl tx := ⟨T.1, (gI_ne (Or.inl (by decide))).trans T.2.1, fun i hi => (gI_ne (Or.inl (by decide))).trans (T.2.2 i hi)⟩
theorem r_numberN {K : Int32 → Mem → Prop} (T : TR M tl tx) (h60 : tl ≤ 60) (h65 : ∀ j, j < 60 → tx j < 65536) (i : Nat) (hi : i ≤ 100) (e : gI M 449 10 = nI i) (dg : Int32) (ls : Nat) (l1 : ls ≤ 1) (hn : ¬ (isD tl tx i ∧ 48 + ls ≤ tx i)) (H : K (-5) M) : w_X6_number 457 M 449 dg (nI ls) K := by
  obtain ⟨t0, t1, t2⟩ := T
  refine ⟨k449, ?_⟩
  rw [t1, e]
  by_cases l : tl ≤ i
  · exact cT (nI_le l (by omega)) H
  · refine cF (nI_ge (by omega) (by omega)) (m_rR t0 (m_rI 456 9 60 i k456 rfl (by omega) (by decide) ?_))
    have b := h65 i (by omega)
    rw [t2 i (by omega), show (48 : Int32) + nI ls = nI (48 + ls) from nI_add 48 ls]
    refine s_inF ?_ (cP rfl H)
    by_cases g : tx i < 48 + ls
    · exact Or.inl (nI_lt g (by omega))
    · refine Or.inr (nI_lt (a := 57) ?_ (by omega))
      refine Nat.not_le.mp (fun y => hn ⟨⟨by omega, by omega, y⟩, by omega⟩)
theorem r_number {K : Int32 → Mem → Prop} (T : TR M tl tx) (h60 : tl ≤ 60) (h65 : ∀ j, j < 60 → tx j < 65536) (i : Nat) (hi : i ≤ 100) (e : gI M 449 10 = nI i) (dg ls j : Nat) (d5 : dg ≤ 5) (l1 : ls ≤ 1) (j1 : 1 ≤ j) (jd : j ≤ dg) (hd : ∀ u, u < j → isD tl tx (i + u)) (hf : 48 + ls ≤ tx i) (hz : tx i = 48 → j = 1) (hs : tx i ≠ 48 → j < dg → ¬ isD tl tx (i + j)) (H : ∀ M', On10 M M' (nI (i + j)) → K (nI (vlT tx i j)) M') : w_X6_number 457 M 449 (nI dg) (nI ls) K := by
  obtain ⟨t0, t1, t2⟩ := id T
  have d0 : isD tl tx i := hd 0 (by omega)
  obtain ⟨a1, a2, a3⟩ := d0
  have vb : ∀ k, k ≤ j → vlT tx i k < 100000 := fun k hk => by
    have := vl_lt tx i k (fun u hu => (hd u (by omega)).2.2)
    have : 10 ^ k ≤ 10 ^ 5 := Nat.pow_le_pow_right (by decide) (by omega)
    omega
  refine ⟨k449, ?_⟩
  rw [t1, e]
  refine cF (nI_ge a1 (by omega)) (m_rR t0 (m_rI 456 9 60 i k456 rfl (by omega) (by decide) ?_))
  rw [t2 i (by omega), show (48 : Int32) + nI ls = nI (48 + ls) from nI_add 48 ls]
  refine s_inT (nI_nlt hf (by omega)) (fun y => by have := (nI_ltI (a := 57) (by decide) (by omega)).mp y; omega) (cN (by decide) ?_)
  rw [e]
  refine m_rR t0 (m_rI 456 9 60 i k456 rfl (by omega) (by decide) ?_)
  rw [t2 i (by omega)]
  refine m_eq (m_eq ?_)
  rw [nI_1, show nI (tx i) - (48 : Int32) = nI (tx i - 48) from pk_sub (b := 48) a2]
  have e1 : vlT tx i 1 = tx i - 48 := by
    show 10 * 0 + (tx (i + 0) - 48) = _
    rw [Nat.add_zero]; omega
  rw [← e1]
  refine lpU (fun f' k M' => w_X6_number_L61 457 K f' M' 449 (nI dg) (nI (vlT tx i k)) (nI k)) (fun k M' => 1 ≤ k ∧ On10 M M' (nI (i + k))) j ?_ ?_ 4000 1 _ j1 (by omega) ⟨Nat.le_refl 1, on10_s M _⟩
  · intro f' M' ⟨_, o⟩
    have fin := H M' o
    by_cases g : dg ≤ j
    · exact cT (nI_le g (by omega)) fin
    · refine cF (nI_ge (by omega) (by omega)) ?_
      by_cases z : tx i = 48
      · have j0 := hz z
        rw [j0] at fin ⊢
        have v0 : vlT tx i 1 = 0 := by rw [e1, z]
        rw [v0] at fin ⊢
        exact cT (by decide) fin
      · have vp := vl_pos tx i (by omega) j j1
        obtain ⟨u0, u1, u2⟩ := T.o10 o
        refine cF (nI_nle (by omega) (by have := vb j (Nat.le_refl j); omega)) ⟨k449, ?_⟩
        rw [u1, o.2.1]
        by_cases l : tl ≤ i + j
        · exact cT (nI_le l (by omega)) fin
        · refine cF (nI_ge (by omega) (by omega)) (m_rR u0 (m_rI 456 9 60 (i + j) k456 rfl (by omega) (by decide) ?_))
          have bb := h65 (i + j) (by omega)
          rw [u2 _ (by omega)]
          refine s_inF ?_ (cT rfl fin)
          by_cases g : tx (i + j) < 48
          · exact Or.inl (nI_lt (b := 48) g (by decide))
          · refine Or.inr (nI_lt (a := 57) ?_ (by omega))
            exact Nat.not_le.mp (fun y => hs z (by omega) ⟨by omega, by omega, y⟩)
  · intro f' k M' hk ⟨k1', o⟩ ih
    obtain ⟨c1, c2, c3⟩ := hd k hk
    obtain ⟨u0, u1, u2⟩ := T.o10 o
    have n48 : tx i ≠ 48 := fun y => by have := hz y; omega
    have vp := vl_pos tx i (by omega) k k1'
    have vk := vb k (by omega)
    refine cF (nI_ge (by omega) (by omega)) (cF (nI_nle (by omega) (by omega)) ⟨k449, ?_⟩)
    rw [u1, o.2.1]
    refine cF (nI_ge c1 (by omega)) (m_rR u0 (m_rI 456 9 60 (i + k) k456 rfl (by omega) (by decide) ?_))
    rw [u2 _ (by omega)]
    refine s_inT (nI_nlt (b := 48) c2 (by omega)) (fun y => by have := (nI_ltI (a := 57) (by decide) (by omega)).mp y; omega) (cF (by decide) ?_)
    rw [o.2.1]
    refine m_rR u0 (m_rI 456 9 60 (i + k) k456 rfl (by omega) (by decide) ?_)
    rw [u2 _ (by omega)]
    refine m_eq (m_eq (m_eq ?_))
    have ev : (10 : Int32) * nI (vlT tx i k) + nI (tx (i + k)) - (48 : Int32) = nI (vlT tx i (k + 1)) := by
      rw [show (10 : Int32) * nI (vlT tx i k) = nI (10 * vlT tx i k) from pk_mul 10 _, nI_add, show nI (10 * vlT tx i k + tx (i + k)) - (48 : Int32) = nI (10 * vlT tx i k + tx (i + k) - 48) from pk_sub (b := 48) (by omega), vl_succ]
      exact congrArg nI (by omega)
    rw [ev, nI_1, nI_1]
    exact ih _ ⟨by omega, o.then (on10_s M' (nI (i + (k + 1))))⟩
theorem r_isSign {K : Int32 → Mem → Prop} (T : TR M tl tx) (h60 : tl ≤ 60) (h65 : ∀ j, j < 60 → tx j < 65536) (i c : Nat) (hi : i ≤ 100) (hc : c < 65536) (e : gI M 449 10 = nI i) (HY : isC tl tx i c → K 1 M) (HN : ¬ isC tl tx i c → K 0 M) : w_X6_isSign 457 M 449 (nI c) K := by
  obtain ⟨t0, t1, t2⟩ := T
  refine ⟨k449, ?_⟩
  rw [t1, e]
  by_cases l : tl ≤ i
  · exact cT (nI_le l (by omega)) (HN (fun y => by have := y.1; omega))
  · refine cF (nI_ge (by omega) (by omega)) (m_rR t0 (m_rI 456 9 60 i k456 rfl (by omega) (by decide) ?_))
    have b := h65 i (by omega)
    rw [t2 i (by omega)]
    by_cases g : tx i = c
    · exact cP (by rw [g]) (HY ⟨by omega, g⟩)
    · exact cN (fun y => g ((nI_eq (by omega) (by omega)).mp y)) (HN (fun y => g y.2))
/-- what reading leaves as it was -/
def OnP (M M' : Mem) : Prop := (∀ r k, r ≠ 457 → (r = 449 → k ≠ 10 ∧ k ≠ 11) → gI M' r k = gI M r k) ∧ M'.2 = M.2
theorem OnP.rf (M : Mem) : OnP M M := ⟨fun _ _ _ _ => rfl, rfl⟩
theorem OnP.trans {A B C : Mem} (h : OnP A B) (g : OnP B C) : OnP A C := ⟨fun r k u v => (g.1 r k u v).trans (h.1 r k u v), g.2.trans h.2⟩
theorem On10.pp {v : Int32} (h : On10 M M' v) : OnP M M' := ⟨fun r k _ w => h.1 r k ((Classical.em (r = 449)).elim (fun e => Or.inr (w e).1) Or.inl), h.2.2⟩
theorem onP_7 (M : Mem) (j : Nat) (v : Int32) : OnP M (sI M 457 j v) := ⟨fun r k u _ => gI_ne (Or.inl u), rfl⟩
theorem onP_9 (M : Mem) (v : Int32) : OnP M (sI M 449 11 v) := ⟨fun r k u w => gI_ne ((Classical.em (r = 449)).elim (fun e => Or.inr (w e).2) Or.inl), rfl⟩
theorem OnP.gR {A B : Mem} (h : OnP A B) (r k : Nat) : gR B r k = gR A r k := congrFun (congrFun (congrArg (fun x => x.2.2) h.2) r) k
theorem TR.op (T : TR M tl tx) (o : OnP M M') : TR M' tl tx := ⟨(o.gR 449 9).trans T.1, (o.1 449 8 (by decide) (fun _ => by decide)).trans T.2.1, fun j hj => (o.1 456 j (by decide) (fun y => absurd y (by decide))).trans (T.2.2 j hj)⟩
/-- a part is read into the row -/
def RP (tl : Nat) (tx : Nat → Nat) (M M' : Mem) (i m : Nat) : Prop := OnP M M' ∧ gI M' 449 10 = nI (ndT tl tx i) ∧ gI M' 449 11 = nI (m + 1) ∧ (∀ u, u < 3 * m → gI M' 457 u = gI M 457 u) ∧ gI M' 457 (3 * m + 0) = nI (ppT tl tx i) ∧ gI M' 457 (3 * m + 1) = nI (lvT tl tx i) ∧ gI M' 457 (3 * m + 2) = nI (vvT tl tx i)
def chR (K : Int32 → Mem → Prop) (x2 : Int32) (M8 : Mem) : Prop := (∀ M55, M55 = sI M8 449 10 ((gI M8 449 10) + (1 : Int32)) → (∀ r56, r56 = gR M55 449 12 → w_X6_number 457 M55 449 (5 : Int32) (0 : Int32) (fun x58 M57 => ((r56 ≤ 457 ∧ (kd r56).1 = 7 ∧ vp_in (x2 + (1 : Int32)) (kd r56).2) ∧ (∀ M59, M59 = sI M57 r56 (Int32.toNatClampNeg (x2 + (1 : Int32))) x58 → (∀ r60, r60 = gR M59 449 12 → ((r60 ≤ 457 ∧ (kd r60).1 = 7 ∧ vp_in (x2 + (1 : Int32)) (kd r60).2) ∧ (∀ x61, x61 = gI M59 r60 (Int32.toNatClampNeg (x2 + (1 : Int32))) → ((x61 = (-5 : Int32) → K (0 : Int32) M59) ∧ (¬ x61 = (-5 : Int32) → w_X6_isSign 457 M59 449 (47 : Int32) (fun x63 M62 => ((¬ x63 = 0 → (∀ M64, M64 = sI M62 449 10 ((gI M62 449 10) + (1 : Int32)) → (∀ r65, r65 = gR M64 449 12 → w_X6_number 457 M64 449 (3 : Int32) (1 : Int32) (fun x67 M66 => ((r65 ≤ 457 ∧ (kd r65).1 = 7 ∧ vp_in (x2 + (2 : Int32)) (kd r65).2) ∧ (∀ M68, M68 = sI M66 r65 (Int32.toNatClampNeg (x2 + (2 : Int32))) x67 → (∀ r69, r69 = gR M68 449 12 → ((r69 ≤ 457 ∧ (kd r69).1 = 7 ∧ vp_in (x2 + (2 : Int32)) (kd r69).2) ∧ (∀ x70, x70 = gI M68 r69 (Int32.toNatClampNeg (x2 + (2 : Int32))) → ((¬ x70 = (-5 : Int32) → (∀ M71, M71 = sI M68 449 11 ((gI M68 449 11) + (1 : Int32)) → (((gI M71 449 10) = (gI M71 449 8) → K (1 : Int32) M71) ∧ (¬ (gI M71 449 10) = (gI M71 449 8) → (∀ r72, r72 = gR M71 449 9 → ((r72 ≤ 457 ∧ (kd r72).1 = 9 ∧ vp_in (gI M71 449 10) (kd r72).2) ∧ (∀ x73, x73 = gI M71 r72 (Int32.toNatClampNeg (gI M71 449 10)) → ((¬ x73 = (59 : Int32) → K (0 : Int32) M71) ∧ (x73 = (59 : Int32) → K (1 : Int32) M71))))))))) ∧ (x70 = (-5 : Int32) → K (0 : Int32) M68))))))))))) ∧ (x63 = 0 → K (0 : Int32) M62)))))))))))))
theorem r_chR {K : Int32 → Mem → Prop} (T : TR M tl tx) (g12 : gR M 449 12 = 457) (h60 : tl ≤ 60) (h65 : ∀ j, j < 60 → tx j < 65536) (i m : Nat) (hi : i ≤ 60) (hm : m ≤ 12) (e10 : gI M 449 10 = nI i) (e11 : gI M 449 11 = nI m) (hvp : isC tl tx i 118 ∨ isC tl tx i 112) (e7 : gI M 457 (3 * m + 0) = nI (ppT tl tx i)) (HF : ¬ okP tl tx i → ∀ M', OnP M M' → gI M' 449 10 = nI (ftT tl tx i) → K 0 M') (HY : okP tl tx i → ∀ M', RP tl tx M M' i m → (ndT tl tx i = tl ∨ isC tl tx (ndT tl tx i) 59) → K 1 M') (HN : okP tl tx i → ∀ M', RP tl tx M M' i m → ¬ (ndT tl tx i = tl ∨ isC tl tx (ndT tl tx i) 59) → K 0 M') : chR K (nI (3 * m)) M := by
  have l1 := sl_le (tl := tl) (tx := tx) i
  have l2 := nd_le (tl := tl) (tx := tx) i
  have x1 : nI (3 * m) + (1 : Int32) = nI (3 * m + 1) := nI_1 _
  have x2 : nI (3 * m) + (2 : Int32) = nI (3 * m + 2) := nI_add _ 2
  unfold ftT at HF
  rw [if_pos hvp] at HF
  unfold chR
  rw [x1, x2]
  refine m_eq ?_
  rw [e10, nI_1]
  obtain ⟨A, hA⟩ : ∃ A, A = sI M 449 10 (nI (i + 1)) := ⟨_, rfl⟩
  have oA : On10 M A (nI (i + 1)) := by rw [hA]; exact on10_s M _
  rw [← hA]
  have TA := T.o10 oA
  obtain ⟨j, h1, h2, h3, h4, h5, h6⟩ := bl_spec (tl := tl) (tx := tx) (i + 1)
  have e1 : slT tl tx i = i + 1 + j := h1
  refine m_rR ((oA.gR 449 12).trans g12) ?_
  by_cases j0 : j = 0
  · refine r_numberN (ls := 0) TA h60 h65 (i + 1) (by omega) oA.2.1 _ (by decide) (fun y => h4.mp j0 y.1) (m_wI 457 7 42 (3 * m + 1) k457 rfl (by omega) (by decide) (m_rR ((oA.gR 449 12).trans g12) (m_rI 457 7 42 (3 * m + 1) k457 rfl (by omega) (by decide) (cT gI_eq ?_))))
    rw [if_neg (fun y => y.1 (by omega))] at HF
    refine HF (fun o => o.2.1 (by omega)) _ (oA.pp.trans (onP_7 A _ _)) ?_
    rw [gI_ne (Or.inl (by decide)), oA.2.1, e1, j0]
  have dj := h3 0 (by omega)
  refine r_number TA h60 h65 (i + 1) (by omega) oA.2.1 5 0 j (by decide) (by decide) (by omega) h2 h3 dj.2.1 (fun y => h5 ⟨dj.1, y⟩) (fun y => h6 (fun z => y z.2)) (fun B oB => ?_)
  have lv : lvT tl tx i = vlT tx (i + 1) j := by unfold lvT; rw [e1, Nat.add_sub_cancel_left]
  have vb : vlT tx (i + 1) j < 100000 := by
    have := vl_lt tx (i + 1) j (fun u hu => (h3 u hu).2.2)
    have : 10 ^ j ≤ 10 ^ 5 := Nat.pow_le_pow_right (by decide) h2
    omega
  rw [← lv] at vb ⊢
  rw [← e1] at oB
  have gB : gR B 449 12 = 457 := (oB.gR 449 12).trans ((oA.gR 449 12).trans g12)
  refine m_wI 457 7 42 (3 * m + 1) k457 rfl (by omega) (by decide) ?_
  obtain ⟨C, hC⟩ : ∃ C, C = sI B 457 (3 * m + 1) (nI (lvT tl tx i)) := ⟨_, rfl⟩
  rw [← hC]
  have oC : OnP M C := by rw [hC]; exact (oA.pp.trans oB.pp).trans (onP_7 B _ _)
  have gC : gR C 449 12 = 457 := (oC.gR 449 12).trans g12
  have cC : gI C 457 (3 * m + 1) = nI (lvT tl tx i) := by rw [hC]; exact gI_eq
  have c10 : gI C 449 10 = nI (slT tl tx i) := by rw [hC, gI_ne (Or.inl (by decide))]; exact oB.2.1
  have TC := T.op oC
  have rC : ∀ u, u ≠ 3 * m + 1 → gI C 457 u = gI M 457 u := fun u hu => by rw [hC, gI_ne (Or.inr hu), oB.1 457 u (Or.inl (by decide)), oA.1 457 u (Or.inl (by decide))]
  have c11 : gI C 449 11 = nI m := by rw [hC, gI_ne (Or.inl (by decide)), oB.1 449 11 (Or.inr (by decide)), oA.1 449 11 (Or.inr (by decide))]; exact e11
  refine m_rR gC (m_rI 457 7 42 (3 * m + 1) k457 rfl (by omega) (by decide) ?_)
  rw [cC]
  refine cF (nI_ne5 (by omega)) (r_isSign TC h60 h65 (slT tl tx i) 47 (by omega) (by decide) c10 (fun y => cN (by decide) ?_) (fun y => cP rfl ?_))
  rotate_left
  · rw [if_neg (fun z => y z.2)] at HF
    exact HF (fun o => y o.2.2.1) C oC c10
  rw [if_pos ⟨by omega, y⟩] at HF
  refine m_eq ?_
  rw [c10, nI_1]
  obtain ⟨A', hA'⟩ : ∃ A, A = sI C 449 10 (nI (slT tl tx i + 1)) := ⟨_, rfl⟩
  have oA' : On10 C A' (nI (slT tl tx i + 1)) := by rw [hA']; exact on10_s C _
  rw [← hA']
  have TA' := TC.o10 oA'
  obtain ⟨j', g1, g2, g3, g4, g5⟩ := bv_spec (tl := tl) (tx := tx) (slT tl tx i + 1)
  have e2 : ndT tl tx i = slT tl tx i + 1 + j' := g1
  refine m_rR ((oA'.gR 449 12).trans gC) ?_
  by_cases j0' : j' = 0
  · refine r_numberN (ls := 1) TA' h60 h65 (slT tl tx i + 1) (by omega) oA'.2.1 _ (by decide) (fun y => g4.mp j0' y) (m_wI 457 7 42 (3 * m + 2) k457 rfl (by omega) (by decide) (m_rR ((oA'.gR 449 12).trans gC) (m_rI 457 7 42 (3 * m + 2) k457 rfl (by omega) (by decide) (cP gI_eq ?_))))
    refine HF (fun o => o.2.2.2 (by omega)) _ (oC.trans (oA'.pp.trans (onP_7 A' _ _))) ?_
    rw [gI_ne (Or.inl (by decide)), oA'.2.1, e2, j0']
  have dj' := g3 0 (by omega)
  have n49 : 49 ≤ tx (slT tl tx i + 1) := (Classical.not_not.mp (fun y => j0' (g4.mpr y))).2
  have o : okP tl tx i := ⟨hvp, by omega, y, by omega⟩
  have ndl := (ok_all o).2.2.2.1
  refine r_number TA' h60 h65 (slT tl tx i + 1) (by omega) oA'.2.1 3 1 j' (by decide) (by decide) (by omega) g2 g3 n49 (fun y => by omega) (fun y => g5 (fun z => y z.2)) (fun B' oB' => ?_)
  have vv : vvT tl tx i = vlT tx (slT tl tx i + 1) j' := by unfold vvT; rw [e2, Nat.add_sub_cancel_left]
  have vb' := (ok_val o).2.2.2
  rw [← vv]
  rw [← e2] at oB'
  refine m_wI 457 7 42 (3 * m + 2) k457 rfl (by omega) (by decide) ?_
  obtain ⟨E, hE⟩ : ∃ E, E = sI B' 457 (3 * m + 2) (nI (vvT tl tx i)) := ⟨_, rfl⟩
  rw [← hE]
  have oE : OnP C E := by rw [hE]; exact (oA'.pp.trans oB'.pp).trans (onP_7 B' _ _)
  have gE : gR E 449 12 = 457 := (oE.gR 449 12).trans gC
  have cE : gI E 457 (3 * m + 2) = nI (vvT tl tx i) := by rw [hE]; exact gI_eq
  have rE : ∀ u, u ≠ 3 * m + 2 → gI E 457 u = gI C 457 u := fun u hu => by rw [hE, gI_ne (Or.inr hu), oB'.1 457 u (Or.inl (by decide)), oA'.1 457 u (Or.inl (by decide))]
  have E11 : gI E 449 11 = nI m := by rw [hE, gI_ne (Or.inl (by decide)), oB'.1 449 11 (Or.inr (by decide)), oA'.1 449 11 (Or.inr (by decide))]; exact c11
  have E10 : gI E 449 10 = nI (ndT tl tx i) := by rw [hE, gI_ne (Or.inl (by decide))]; exact oB'.2.1
  refine m_rR gE (m_rI 457 7 42 (3 * m + 2) k457 rfl (by omega) (by decide) ?_)
  rw [cE]
  refine cN (nI_ne5 (by omega)) (m_eq ?_)
  rw [E11, nI_1]
  obtain ⟨G, hG⟩ : ∃ G, G = sI E 449 11 (nI (m + 1)) := ⟨_, rfl⟩
  rw [← hG]
  have oG : OnP M G := by rw [hG]; exact (oC.trans oE).trans (onP_9 E _)
  have G10 : gI G 449 10 = nI (ndT tl tx i) := by rw [hG, gI_ne (Or.inr (by decide))]; exact E10
  obtain ⟨t0, t1, t2⟩ := T.op oG
  have rp : RP tl tx M G i m := by
    have r7 : ∀ u, gI G 457 u = gI E 457 u := fun u => by rw [hG]; exact gI_ne (Or.inl (by decide))
    refine ⟨oG, G10, by rw [hG]; exact gI_eq, fun u hu => ?_, ?_, ?_, ?_⟩
    · rw [r7, rE u (by omega), rC u (by omega)]
    · rw [r7, rE _ (by omega), rC _ (by omega)]; exact e7
    · rw [r7, rE _ (by omega)]; exact cC
    · rw [r7]; exact cE
  rw [G10, t1]
  by_cases z : ndT tl tx i = tl
  · exact cT (by rw [z]) (HY o G rp (Or.inl z))
  · have zl : ndT tl tx i < tl := by omega
    have bb := h65 (ndT tl tx i) (by omega)
    refine cF (fun y => z ((nI_eq (by omega) (by omega)).mp y)) (m_rR t0 (m_rI 456 9 60 (ndT tl tx i) k456 rfl (by omega) (by decide) ?_))
    rw [t2 _ (by omega)]
    by_cases g : tx (ndT tl tx i) = 59
    · exact cP (by rw [g]; rfl) (HY o G rp (Or.inr ⟨zl, g⟩))
    · exact cN (fun y => g ((nI_eq (b := 59) (by omega) (by decide)).mp y)) (HN o G rp (fun y => y.elim z (fun y => g y.2)))
theorem r_readsPart {K : Int32 → Mem → Prop} (T : TR M tl tx) (g12 : gR M 449 12 = 457) (h60 : tl ≤ 60) (h65 : ∀ j, j < 60 → tx j < 65536) (i m : Nat) (hi : i ≤ 60) (hm : m ≤ 12) (e10 : gI M 449 10 = nI i) (e11 : gI M 449 11 = nI m) (HF : ¬ okP tl tx i → ∀ M', OnP M M' → gI M' 449 10 = nI (ftT tl tx i) → K 0 M') (HY : okP tl tx i → ∀ M', RP tl tx M M' i m → (ndT tl tx i = tl ∨ isC tl tx (ndT tl tx i) 59) → K 1 M') (HN : okP tl tx i → ∀ M', RP tl tx M M' i m → ¬ (ndT tl tx i = tl ∨ isC tl tx (ndT tl tx i) 59) → K 0 M') : w_X6_readsPart 457 M 449 K := by
  refine ⟨k449, m_eq ?_⟩
  rw [e11, show (3 : Int32) * nI m = nI (3 * m) from pk_mul 3 m]
  refine m_rR g12 ?_
  have both : ∀ v : Nat, v = ppT tl tx i → (isC tl tx i 118 ∨ isC tl tx i 112) → chR K (nI (3 * m)) (sI M 457 (3 * m) (nI v)) := by
    intro v hv hvp
    have o := onP_7 M (3 * m) (nI v)
    have rr : ∀ G, RP tl tx (sI M 457 (3 * m) (nI v)) G i m → RP tl tx M G i m := fun G ⟨r1, r2, r3, r4, r5⟩ => ⟨o.trans r1, r2, r3, fun u hu => (r4 u hu).trans (gI_ne (Or.inr (by omega))), r5⟩
    refine r_chR (T.op o) g12 h60 h65 i m hi hm ((gI_ne (Or.inl (by decide))).trans e10) ((gI_ne (Or.inl (by decide))).trans e11) hvp ?_ (fun n G oG eG => HF n G (o.trans oG) eG) (fun ok G r y => HY ok G (rr G r) y) (fun ok G r y => HN ok G (rr G r) y)
    rw [← hv]; exact gI_eq
  refine r_isSign T h60 h65 i 118 (by omega) (by decide) e10 (fun y => cF (by decide) ?_) (fun y => cT rfl (r_isSign T h60 h65 i 112 (by omega) (by decide) e10 (fun y' => cF (by decide) ?_) (fun y' => cT rfl ?_)))
  · have n112 : ¬ isC tl tx i 112 := fun z => by have := y.2; have := z.2; omega
    refine m_wI 457 7 42 (3 * m) k457 rfl (by omega) (by decide) (m_rR g12 (m_rI 457 7 42 (3 * m) k457 rfl (by omega) (by decide) (cN ?_ ?_)))
    · rw [gI_eq]; decide
    · exact both 0 (by unfold ppT; rw [if_neg n112]) (Or.inl y)
  · refine m_wI 457 7 42 (3 * m) k457 rfl (by omega) (by decide) (m_rR g12 (m_rI 457 7 42 (3 * m) k457 rfl (by omega) (by decide) (cN ?_ ?_)))
    · rw [gI_eq]; decide
    · exact both 1 (by unfold ppT; rw [if_pos y']) (Or.inr y')
  · refine m_wI 457 7 42 (3 * m) k457 rfl (by omega) (by decide) (m_rR g12 (m_rI 457 7 42 (3 * m) k457 rfl (by omega) (by decide) (cP gI_eq ?_)))
    have nvp : ¬ (isC tl tx i 118 ∨ isC tl tx i 112) := fun z => z.elim y y'
    refine HF (fun o => nvp o.1) _ (onP_7 M _ _) ?_
    unfold ftT
    rw [if_neg nvp, gI_ne (Or.inl (by decide))]; exact e10
