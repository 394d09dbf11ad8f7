/-! THE PURE PART, 37: the class's constructors: a carousel -/
variable {M M' A : Mem} {b b' c h p k r0 ra i v : Nat}
theorem gI_zr {r a k : Nat} (e : a ≠ r) : gI (zr M r) a k = gI M a k := if_neg e
theorem gD_zr {r a k : Nat} (e : a ≠ r) : gD (zr M r) a k = gD M a k := if_neg e
theorem gL_zr {r a k : Nat} (e : a ≠ r) : gL (zr M r) a k = gL M a k := if_neg e
theorem gR_zr {r a k : Nat} (e : a ≠ r) : gR (zr M r) a k = gR M a k := if_neg e
theorem gI_z0 {r k : Nat} : gI (zr M r) r k = 0 := if_pos rfl
/-- a new row, told by one reference -/
def SpR (M M' : Mem) (r0 ra i v : Nat) : Prop := (∀ r k, r ≠ r0 → gI M' r k = gI M r k ∧ gD M' r k = gD M r k ∧ gL M' r k = gL M r k) ∧ (∀ r k, r ≠ r0 → (r ≠ ra ∨ k ≠ i) → gR M' r k = gR M r k) ∧ gR M' ra i = v
def EqR (A M : Mem) (c : Nat) : Prop := ∀ r, r < c → Same A M r
def Pr0 (M : Mem) (c : Nat) : Prop := (gL M (c + 1) 0 = 4607182418800017408 ∧ gL M (c + 1) 1 = 4652007308841189376 ∧ gL M (c + 1) 2 = 4647503709213818880 ∧ gD M (c + 1) 3 = 4647503709213818880) ∧ (gL M (c + 2) 0 = 0 ∧ gL M (c + 2) 1 = 4696837146684686336 ∧ gL M (c + 2) 2 = 4626322717216342016 ∧ gD M (c + 2) 3 = 4626322717216342016) ∧ (gL M (c + 3) 0 = 0 ∧ gL M (c + 3) 1 = 4696837146684686336 ∧ gL M (c + 3) 2 = 4629137466983448576 ∧ gD M (c + 3) 3 = 4629137466983448576)
def Bs (A M : Mem) (c : Nat) : Prop := EqR A M c ∧ (gR M c 0 = c + 1 ∧ gR M c 1 = c + 2 ∧ gR M c 2 = c + 3) ∧ gI M c 5 = 20 ∧ Pr0 M c
def Hd0 (M : Mem) (c h : Nat) : Prop := gR M (c + 4) h = c + 5 + h ∧ gI M (c + 5 + h) 0 = nI h ∧ (gI M (c + 5 + h) 3 = 0 ∧ gI M (c + 5 + h) 4 = 0 ∧ gI M (c + 5 + h) 5 = 0 ∧ gI M (c + 5 + h) 6 = -5 ∧ gI M (c + 5 + h) 10 = 0 ∧ gI M (c + 5 + h) 11 = 0 ∧ gI M (c + 5 + h) 12 = 0 ∧ gI M (c + 5 + h) 13 = 0) ∧ gD M (c + 5 + h) 1 = FP.dconst1 ∧ gD M (c + 5 + h) 2 = FP.dconst1
def Pt0 (M : Mem) (c p : Nat) : Prop := gR M (c + 13) p = c + 14 + p ∧ gI M (c + 14 + p) 0 = nI p ∧ gI M (c + 14 + p) 4 = -1 ∧ gI M (c + 14 + p) 10 = -5 ∧ gI M (c + 14 + p) 1 = 0
theorem Bs.stp (x : Bs A M c) (s : SpR M M' r0 ra i v) (h1 : c + 4 ≤ r0) (h2 : c + 4 ≤ ra ∨ (ra = c ∧ 3 ≤ i)) : Bs A M' c := by
  obtain ⟨e, ⟨g0, g1, g2⟩, f5, pr⟩ := x
  obtain ⟨s1, s2, s3⟩ := s
  refine ⟨fun r hr => (e r hr).trans (fun k => ⟨(s1 r k (by omega)).1, (s1 r k (by omega)).2.1, (s1 r k (by omega)).2.2, s2 r k (by omega) (by omega)⟩), ⟨?_, ?_, ?_⟩, ?_, ?_⟩
  · rw [s2 c 0 (by omega) (by omega)]; exact g0
  · rw [s2 c 1 (by omega) (by omega)]; exact g1
  · rw [s2 c 2 (by omega) (by omega)]; exact g2
  · rw [(s1 c 5 (by omega)).1]; exact f5
  · unfold Pr0 at pr ⊢
    have q := fun a k (ha : a < c + 4) => (s1 a k (by omega)).2
    rw [(q (c + 1) 0 (by omega)).2, (q (c + 1) 1 (by omega)).2, (q (c + 1) 2 (by omega)).2, (q (c + 1) 3 (by omega)).1, (q (c + 2) 0 (by omega)).2, (q (c + 2) 1 (by omega)).2, (q (c + 2) 2 (by omega)).2, (q (c + 2) 3 (by omega)).1, (q (c + 3) 0 (by omega)).2, (q (c + 3) 1 (by omega)).2, (q (c + 3) 2 (by omega)).2, (q (c + 3) 3 (by omega)).1]
    exact pr
theorem Hd0.stp (x : Hd0 M c h) (s : SpR M M' r0 ra i v) (h1 : r0 ≠ c + 4) (h2 : r0 ≠ c + 5 + h) (h3 : ra ≠ c + 4 ∨ h ≠ i) : Hd0 M' c h := by
  obtain ⟨s1, s2, s3⟩ := s
  unfold Hd0 at x ⊢
  have q := fun k => s1 (c + 5 + h) k (fun y => h2 y.symm)
  rw [s2 (c + 4) h (by omega) (by omega), (q 0).1, (q 3).1, (q 4).1, (q 5).1, (q 6).1, (q 10).1, (q 11).1, (q 12).1, (q 13).1, (q 1).2.1, (q 2).2.1]
  exact x
theorem Pt0.stp (x : Pt0 M c p) (s : SpR M M' r0 ra i v) (h1 : r0 ≠ c + 13) (h2 : r0 ≠ c + 14 + p) (h3 : ra ≠ c + 13 ∨ p ≠ i) : Pt0 M' c p := by
  obtain ⟨s1, s2, s3⟩ := s
  unfold Pt0 at x ⊢
  have q := fun k => s1 (c + 14 + p) k (fun y => h2 y.symm)
  rw [s2 (c + 13) p (by omega) (by omega), (q 0).1, (q 4).1, (q 10).1, (q 1).1]
  exact x
theorem gR_ne {M : Mem} {r k a j v : Nat} (h : a ≠ r ∨ j ≠ k) : gR (sR M r k v) a j = gR M a j := by rw [gR_sR, if_neg (fun z => h.elim (fun y => y z.1) (fun y => y z.2))]
theorem gR_eq {M : Mem} {r k v : Nat} : gR (sR M r k v) r k = v := by rw [gR_sR, if_pos ⟨rfl, rfl⟩]
theorem SL_car (C : Car c) : SL (c + 73) = SL c + 852 := by
  have h1 : SL (2 + 73) = SL 2 + 852 := by decide +kernel
  have h2 : SL (77 + 73) = SL 77 + 852 := by decide +kernel
  have h3 : SL (151 + 73) = SL 151 + 852 := by decide +kernel
  have h4 : SL (225 + 73) = SL 225 + 852 := by decide +kernel
  have h5 : SL (299 + 73) = SL 299 + 852 := by decide +kernel
  have h6 : SL (373 + 73) = SL 373 + 852 := by decide +kernel
  rcases C with e | e | e | e | e | e <;> subst e
  · exact h1
  · exact h2
  · exact h3
  · exact h4
  · exact h5
  · exact h6
theorem al0 (C : Car c) (k : Nat) (h1 : c ≤ k) (h2 : k < c + 73) : Al rmX0_init c k := by
  refine ⟨h1, h2, ?_⟩
  have := SL_le (show k + 1 ≤ c + 73 by omega)
  rw [SL_car C] at this
  exact this
theorem al1 (C : Car c) (k : Nat) (h2 : k < c + 73) : (k + 1) - c + 0 ≤ 73 ∧ SL (k + 1) - SL c + 0 ≤ 852 := by
  have := SL_le (show k + 1 ≤ c + 73 by omega)
  rw [SL_car C] at this
  omega
def prI (M : Mem) (t : Nat) (lo hi : Int64) (v : UInt64) : Mem := sD (sL (sL (sL M t 0 lo) t 1 hi) t 2 v.toInt64) t 3 v
theorem i_X3 {n t : Nat} {lo hi : Int64} {u : UInt64} {K : Mem → Prop} (ht : t ≠ 0) (kt : t ≤ n ∧ kd t = (3, 0)) (hu : u.toNat ≤ 4696837146684686336) (H : K (prI M t lo hi u)) : w_X3_init n M t lo hi u.toInt64 K := ⟨ht, kt, m_eq (m_eq (m_eq (number_ok hu (m_eq H))))⟩
theorem pr_stp (M : Mem) (r j : Nat) (lo hi : Int64) (u : UInt64) (hr : r ≠ c) : SpR M (sR (prI (zr M r) r lo hi u) c j r) r c j r ∧ gL (sR (prI (zr M r) r lo hi u) c j r) r 0 = lo ∧ gL (sR (prI (zr M r) r lo hi u) c j r) r 1 = hi ∧ gL (sR (prI (zr M r) r lo hi u) c j r) r 2 = u.toInt64 ∧ gD (sR (prI (zr M r) r lo hi u) c j r) r 3 = u := by
  have eL : ∀ a k, gL (sR (prI (zr M r) r lo hi u) c j r) a k = gL (sL (sL (sL (zr M r) r 0 lo) r 1 hi) r 2 u.toInt64) a k := fun _ _ => rfl
  have eD : ∀ a k, gD (sR (prI (zr M r) r lo hi u) c j r) a k = gD (sD (zr M r) r 3 u) a k := fun _ _ => rfl
  refine ⟨⟨fun a k ha => ⟨gI_zr ha, ?_, ?_⟩, fun a k ha h2 => ?_, gR_eq⟩, ?_, ?_, ?_, ?_⟩
  · rw [eD, gD_ne (Or.inl ha), gD_zr ha]
  · rw [eL, gL_ne (Or.inl ha), gL_ne (Or.inl ha), gL_ne (Or.inl ha), gL_zr ha]
  · rw [gR_ne h2]; exact gR_zr ha
  · rw [eL, gL_ne (Or.inr (by decide)), gL_ne (Or.inr (by decide)), gL_eq]
  · rw [eL, gL_ne (Or.inr (by decide)), gL_eq]
  · rw [eL, gL_eq]
  · rw [eD, gD_eq]
theorem h_beginN {n r : Nat} {K : Mem → Prop} (kr : r ≤ n ∧ kd r = (1, 0)) (H : ∀ M', Row M M' r (hbI M r) (hbD M r) → K M') : w_X1_begin n M r K := by
  refine ⟨kr, m_eq (m_eq (m_eq (m_eq (m_eq (m_eq (m_eq (m_eq (m_eq (m_eq (m_eq (m_eq (m_eq (H _ ⟨fun a k q => ?_, fun k => ?_, fun a k q => ?_, fun k => ?_, rfl⟩)))))))))))))⟩
  · simp only [gI_sI, gI_sD, q, false_and, if_false]
  · simp only [gI_sI, gI_sD, true_and]; rfl
  · simp only [gD_sI, gD_sD, q, false_and, if_false]
  · simp only [gD_sI, gD_sD, true_and]; rfl
theorem p_absentN {n r : Nat} {K : Mem → Prop} (kr : r ≤ n ∧ kd r = (2, 0)) (H : ∀ M', Row M M' r (pbI M r) (pbD M r) → K M') : w_X2_beAbsent n M r K := by
  refine ⟨kr, kr, Or.inl rfl, m_eq (m_eq (m_eq (m_eq (m_eq (m_eq (m_eq (m_eq (m_eq (m_eq (m_eq (H _ ⟨fun a k q => ?_, fun k => ?_, fun a k q => ?_, fun k => ?_, rfl⟩)))))))))))⟩
  · simp only [gI_sI, gI_sD, q, false_and, if_false]
  · simp only [gI_sI, gI_sD, true_and]; rfl
  · simp only [gD_sI, gD_sD, q, false_and, if_false]
  · simp only [gD_sI, gD_sD, true_and]; rfl
/-- a carousel as it is at first -/
def C0 (A M : Mem) (c : Nat) : Prop := Bs A M c ∧ gR M c 3 = c + 4 ∧ (∀ h, h < 8 → Hd0 M c h) ∧ gR M c 4 = c + 13 ∧ (∀ p, p < 60 → Pt0 M c p) ∧ gI M c 6 = 4 ∧ gI M c 7 = 0 ∧ gI M c 8 = 0 ∧ gI M c 9 = 0
theorem i_parts {K : Mem → Prop} (C : Car c) (H : ∀ M', C0 A M' c → K M') : ∀ (f i : Nat) (M : Mem), i ≤ 60 → 60 - i < f → (Bs A M c ∧ gR M c 3 = c + 4 ∧ (∀ h, h < 8 → Hd0 M c h) ∧ gR M c 4 = c + 13 ∧ ∀ p, p < i → Pt0 M c p) → w_X0_init_L117 c K f (c + 13 + i) M c (nI i) := by
  have cpos := C.pos
  refine lpU (fun f i M => w_X0_init_L117 c K f (c + 13 + i) M c (nI i)) (fun i M => Bs A M c ∧ gR M c 3 = c + 4 ∧ (∀ h, h < 8 → Hd0 M c h) ∧ gR M c 4 = c + 13 ∧ ∀ p, p < i → Pt0 M c p) 60 ?_ ?_
  · intro f M ⟨x1, x2, x3, x4, x5⟩
    refine ⟨⟨by omega, (kc0 (zz := 0) C).2⟩, m_rR x4 ⟨⟨by omega, by rw [(kcA (zz := 0) C).2]; decide, by rw [(kcA (zz := 0) C).2]; decide⟩, ?_⟩⟩
    rw [a_ln (kcA (zz := 0) C)]
    refine cT (Int32.le_refl _) (m_eq (m_eq (m_eq (m_eq ⟨by omega, by rw [SL_car C]; exact Nat.le_refl _, H _ ?_⟩))))
    have e : ∀ r k, r ≠ c → gI (sI (sI (sI (sI M c 6 4) c 7 0) c 8 0) c 9 0) r k = gI M r k := fun r k hr => by rw [gI_ne (Or.inl hr), gI_ne (Or.inl hr), gI_ne (Or.inl hr), gI_ne (Or.inl hr)]
    obtain ⟨b1, b2, b3, b4⟩ := x1
    refine ⟨⟨fun r hr => (b1 r hr).trans (fun k => ⟨e r k (by omega), rfl, rfl, rfl⟩), b2, ?_, b4⟩, x2, fun h hh => ?_, x4, fun p hp => ?_, ?_, ?_, ?_, ?_⟩
    · rw [gI_ne (Or.inr (by decide)), gI_ne (Or.inr (by decide)), gI_ne (Or.inr (by decide)), gI_ne (Or.inr (by decide))]; exact b3
    · have y := x3 h hh
      unfold Hd0 at y ⊢
      rw [e _ _ (by omega), e _ _ (by omega), e _ _ (by omega), e _ _ (by omega), e _ _ (by omega), e _ _ (by omega), e _ _ (by omega), e _ _ (by omega), e _ _ (by omega)]
      exact y
    · have y := x5 p hp
      unfold Pt0 at y ⊢
      rw [e _ _ (by omega), e _ _ (by omega), e _ _ (by omega), e _ _ (by omega)]
      exact y
    · rw [gI_ne (Or.inr (by decide)), gI_ne (Or.inr (by decide)), gI_ne (Or.inr (by decide)), gI_eq]
    · rw [gI_ne (Or.inr (by decide)), gI_ne (Or.inr (by decide)), gI_eq]
    · rw [gI_ne (Or.inr (by decide)), gI_eq]
    · exact gI_eq
  · intro f i M hi ⟨x1, x2, x3, x4, x5⟩ ih
    refine ⟨⟨by omega, (kc0 (zz := 0) C).2⟩, m_rR x4 ⟨⟨by omega, by rw [(kcA (zz := 0) C).2]; decide, by rw [(kcA (zz := 0) C).2]; decide⟩, ?_⟩⟩
    rw [a_ln (kcA (zz := 0) C)]
    have kn : kd (c + 13 + i + 1) = (2, 0) := by rw [show c + 13 + i + 1 = c + 14 + i by omega]; exact (kcp (zz := 0) C i hi).2
    refine cF (nI_ge hi (by decide)) (m_rR x4 ⟨⟨kn, al0 C _ (by omega) (by omega)⟩, m_eq (m_eq ⟨al1 C _ (by omega), by omega, by omega, ⟨Nat.le_refl _, kn⟩, m_eq (p_absentN ⟨Nat.le_refl _, kn⟩ (fun M2 R => ⟨⟨by omega, by rw [(kcA (zz := 0) C).2]; decide, by rw [(kcA (zz := 0) C).2]; exact vp_in_nI hi (by decide), Nat.le_refl _, by rw [(kcA (zz := 0) C).2]; exact kn⟩, m_eq (m_eq ?_)⟩))⟩)⟩)
    rw [nI_clamp (by omega), nI_1]
    obtain ⟨a1, a2, a3, a4, a5⟩ := R
    have st : SpR M (sR M2 (c + 13) i (c + 13 + i + 1)) (c + 13 + i + 1) (c + 13) i (c + 13 + i + 1) := by
      refine ⟨fun r k hr => ⟨?_, ?_, ?_⟩, fun r k hr h2 => ?_, gR_eq⟩
      · exact (a1 r k hr).trans ((gI_ne (Or.inl hr)).trans (gI_zr hr))
      · exact (a3 r k hr).trans (gD_zr hr)
      · exact (congrFun (congrFun (congrArg Prod.fst a5) r) k).trans (gL_zr hr)
      · rw [gR_ne h2]
        exact (congrFun (congrFun (congrArg Prod.snd a5) r) k).trans (gR_zr hr)
    refine ih _ ⟨x1.stp st (by omega) (Or.inl (by omega)), ?_, fun h hh => (x3 h hh).stp st (by omega) (by omega) (Or.inl (by omega)), ?_, fun p hp => ?_⟩
    · rw [st.2.1 c 3 (by omega) (Or.inl (by omega))]; exact x2
    · rw [st.2.1 c 4 (by omega) (Or.inl (by omega))]; exact x4
    · by_cases e : p = i
      · subst e
        have ee : c + 14 + p = c + 13 + p + 1 := by omega
        unfold Pt0
        rw [st.2.2, ee]
        have z := fun k => a2 k
        refine ⟨rfl, ?_, ?_, ?_, ?_⟩
        · exact (z 0).trans gI_eq
        · exact z 4
        · exact z 10
        · exact z 1
      · exact (x5 p (by omega)).stp st (by omega) (by omega) (Or.inr e)
theorem i_heads {K : Mem → Prop} (C : Car c) (H : ∀ M', C0 A M' c → K M') : ∀ (f i : Nat) (M : Mem), i ≤ 8 → 8 - i < f → (Bs A M c ∧ gR M c 3 = c + 4 ∧ ∀ h, h < i → Hd0 M c h) → w_X0_init_L77 c K f (c + 4 + i) M c (nI i) := by
  have cpos := C.pos
  refine lpU (fun f i M => w_X0_init_L77 c K f (c + 4 + i) M c (nI i)) (fun i M => Bs A M c ∧ gR M c 3 = c + 4 ∧ ∀ h, h < i → Hd0 M c h) 8 ?_ ?_
  · intro f M ⟨x1, x2, x3⟩
    refine ⟨⟨by omega, (kc0 (zz := 0) C).2⟩, m_rR x2 ⟨⟨by omega, by rw [(kcH (zz := 0) C).2]; decide, by rw [(kcH (zz := 0) C).2]; decide⟩, ?_⟩⟩
    rw [a_ln (kcH (zz := 0) C)]
    refine cT (Int32.le_refl _) ⟨⟨(kcA (zz := 0) C).2, al0 C _ (by omega) (by omega)⟩, m_eq ⟨⟨by omega, (kc0 (zz := 0) C).2⟩, m_eq ?_⟩⟩
    have st : SpR M (sR (zr M (c + 4 + 8 + 1)) c 4 (c + 4 + 8 + 1)) (c + 4 + 8 + 1) c 4 (c + 4 + 8 + 1) := ⟨fun r k hr => ⟨gI_zr hr, gD_zr hr, gL_zr hr⟩, fun r k hr h2 => (gR_ne h2).trans (gR_zr hr), gR_eq⟩
    refine i_parts C H 4000 0 _ (by omega) (by omega) ⟨x1.stp st (by omega) (Or.inr ⟨rfl, by decide⟩), ?_, fun h hh => (x3 h hh).stp st (by omega) (by omega) (Or.inl (by omega)), st.2.2, fun p hp => by omega⟩
    rw [st.2.1 c 3 (by omega) (Or.inr (by decide))]; exact x2
  · intro f i M hi ⟨x1, x2, x3⟩ ih
    refine ⟨⟨by omega, (kc0 (zz := 0) C).2⟩, m_rR x2 ⟨⟨by omega, by rw [(kcH (zz := 0) C).2]; decide, by rw [(kcH (zz := 0) C).2]; decide⟩, ?_⟩⟩
    rw [a_ln (kcH (zz := 0) C)]
    have kn : kd (c + 4 + i + 1) = (1, 0) := by rw [show c + 4 + i + 1 = c + 5 + i by omega]; exact (kch (zz := 0) C i hi).2
    refine cF (nI_ge hi (by decide)) (m_rR x2 ⟨⟨kn, al0 C _ (by omega) (by omega)⟩, m_eq (m_eq ⟨al1 C _ (by omega), by omega, by omega, ⟨Nat.le_refl _, kn⟩, m_eq (h_beginN ⟨Nat.le_refl _, kn⟩ (fun M2 R => ⟨⟨by omega, by rw [(kcH (zz := 0) C).2]; decide, by rw [(kcH (zz := 0) C).2]; exact vp_in_nI hi (by decide), Nat.le_refl _, by rw [(kcH (zz := 0) C).2]; exact kn⟩, m_eq (m_eq ?_)⟩))⟩)⟩)
    rw [nI_clamp (by omega), nI_1]
    obtain ⟨a1, a2, a3, a4, a5⟩ := R
    have st : SpR M (sR M2 (c + 4) i (c + 4 + i + 1)) (c + 4 + i + 1) (c + 4) i (c + 4 + i + 1) := by
      refine ⟨fun r k hr => ⟨?_, ?_, ?_⟩, fun r k hr h2 => ?_, gR_eq⟩
      · exact (a1 r k hr).trans ((gI_ne (Or.inl hr)).trans (gI_zr hr))
      · exact (a3 r k hr).trans (gD_zr hr)
      · exact (congrFun (congrFun (congrArg Prod.fst a5) r) k).trans (gL_zr hr)
      · rw [gR_ne h2]
        exact (congrFun (congrFun (congrArg Prod.snd a5) r) k).trans (gR_zr hr)
    refine ih _ ⟨x1.stp st (by omega) (Or.inl (by omega)), ?_, fun h hh => ?_⟩
    · rw [st.2.1 c 3 (by omega) (Or.inl (by omega))]; exact x2
    · by_cases e : h = i
      · subst e
        have ee : c + 5 + h = c + 4 + h + 1 := by omega
        unfold Hd0
        rw [st.2.2, ee]
        refine ⟨rfl, (a2 0).trans gI_eq, ⟨a2 3, a2 4, a2 5, a2 6, a2 10, a2 11, a2 12, a2 13⟩, a4 1, a4 2⟩
      · exact (x3 h (by omega)).stp st (by omega) (by omega) (Or.inr e)
theorem i_X0 {K : Mem → Prop} (C : Car c) (H : ∀ M', C0 A M' c → K M') : w_X0_init c A c K := by
  have cpos := C.pos
  have k3 := fun i hi => (kcP (zz := 0) C i hi).2
  have b1 : (4647503709213818880 : Int64) = (4647503709213818880 : UInt64).toInt64 := by decide
  have b2 : (4626322717216342016 : Int64) = (4626322717216342016 : UInt64).toInt64 := by decide
  have b3 : (4629137466983448576 : Int64) = (4629137466983448576 : UInt64).toInt64 := by decide
  refine ⟨by omega, ⟨k3 0 (by decide), al0 C c (by omega) (by omega)⟩, m_eq (m_eq ⟨al1 C c (by omega), by omega, ?_⟩)⟩
  rw [b1]
  refine i_X3 (by omega) ⟨Nat.le_refl _, k3 0 (by decide)⟩ (by decide) ⟨⟨by omega, (kc0 (zz := 0) C).2⟩, m_eq ⟨⟨k3 1 (by decide), al0 C (c + 1) (by omega) (by omega)⟩, m_eq (m_eq ⟨al1 C (c + 1) (by omega), by omega, ?_⟩)⟩⟩
  rw [b2]
  refine i_X3 (by omega) ⟨Nat.le_refl _, k3 1 (by decide)⟩ (by decide) ⟨⟨by omega, (kc0 (zz := 0) C).2⟩, m_eq ⟨⟨k3 2 (by decide), al0 C (c + 1 + 1) (by omega) (by omega)⟩, m_eq (m_eq ⟨al1 C (c + 1 + 1) (by omega), by omega, ?_⟩)⟩⟩
  rw [b3]
  refine i_X3 (by omega) ⟨Nat.le_refl _, k3 2 (by decide)⟩ (by decide) ⟨⟨by omega, (kc0 (zz := 0) C).2⟩, m_eq (m_eq ⟨⟨(kcH (zz := 0) C).2, al0 C (c + 1 + 1 + 1) (by omega) (by omega)⟩, m_eq ⟨⟨by omega, (kc0 (zz := 0) C).2⟩, m_eq ?_⟩⟩)⟩
  obtain ⟨p1, p10, p11, p12, p13⟩ := pr_stp (c := c) A (c + 1) 0 4607182418800017408 4652007308841189376 4647503709213818880 (by omega)
  obtain ⟨X1, hX1⟩ : ∃ X, X = sR (prI (zr A (c + 1)) (c + 1) 4607182418800017408 4652007308841189376 4647503709213818880) c 0 (c + 1) := ⟨_, rfl⟩
  rw [← hX1] at p1 p10 p11 p12 p13 ⊢
  obtain ⟨p2, p20, p21, p22, p23⟩ := pr_stp (c := c) X1 (c + 1 + 1) 1 0 4696837146684686336 4626322717216342016 (by omega)
  obtain ⟨X2, hX2⟩ : ∃ X, X = sR (prI (zr X1 (c + 1 + 1)) (c + 1 + 1) 0 4696837146684686336 4626322717216342016) c 1 (c + 1 + 1) := ⟨_, rfl⟩
  rw [← hX2] at p2 p20 p21 p22 p23 ⊢
  obtain ⟨p3, p30, p31, p32, p33⟩ := pr_stp (c := c) X2 (c + 1 + 1 + 1) 2 0 4696837146684686336 4629137466983448576 (by omega)
  obtain ⟨X3, hX3⟩ : ∃ X, X = sR (prI (zr X2 (c + 1 + 1 + 1)) (c + 1 + 1 + 1) 0 4696837146684686336 4629137466983448576) c 2 (c + 1 + 1 + 1) := ⟨_, rfl⟩
  rw [← hX3] at p3 p30 p31 p32 p33 ⊢
  have bs : Bs A (sI X3 c 5 20) c := by
    have q : ∀ r k, r ≠ c → gI (sI X3 c 5 20) r k = gI X3 r k := fun r k h => gI_ne (Or.inl h)
    refine ⟨fun r hr k => ⟨?_, ?_, ?_, ?_⟩, ⟨?_, ?_, p3.2.2⟩, gI_eq, ⟨?_, ?_, ?_, ?_⟩, ⟨?_, ?_, ?_, ?_⟩, p30, p31, p32, p33⟩
    · rw [q r k (by omega), (p3.1 r k (by omega)).1, (p2.1 r k (by omega)).1, (p1.1 r k (by omega)).1]
    · exact (p3.1 r k (by omega)).2.1.trans ((p2.1 r k (by omega)).2.1.trans (p1.1 r k (by omega)).2.1)
    · exact (p3.1 r k (by omega)).2.2.trans ((p2.1 r k (by omega)).2.2.trans (p1.1 r k (by omega)).2.2)
    · exact (p3.2.1 r k (by omega) (Or.inl (by omega))).trans ((p2.2.1 r k (by omega) (Or.inl (by omega))).trans (p1.2.1 r k (by omega) (Or.inl (by omega))))
    · exact (p3.2.1 c 0 (by omega) (Or.inr (by decide))).trans ((p2.2.1 c 0 (by omega) (Or.inr (by decide))).trans p1.2.2)
    · exact (p3.2.1 c 1 (by omega) (Or.inr (by decide))).trans p2.2.2
    · exact (p3.1 (c + 1) 0 (by omega)).2.2.trans ((p2.1 (c + 1) 0 (by omega)).2.2.trans p10)
    · exact (p3.1 (c + 1) 1 (by omega)).2.2.trans ((p2.1 (c + 1) 1 (by omega)).2.2.trans p11)
    · exact (p3.1 (c + 1) 2 (by omega)).2.2.trans ((p2.1 (c + 1) 2 (by omega)).2.2.trans p12)
    · exact (p3.1 (c + 1) 3 (by omega)).2.1.trans ((p2.1 (c + 1) 3 (by omega)).2.1.trans p13)
    · exact (p3.1 (c + 2) 0 (by omega)).2.2.trans p20
    · exact (p3.1 (c + 2) 1 (by omega)).2.2.trans p21
    · exact (p3.1 (c + 2) 2 (by omega)).2.2.trans p22
    · exact (p3.1 (c + 2) 3 (by omega)).2.1.trans p23
  obtain ⟨Y, hY⟩ : ∃ Y, Y = sI X3 c 5 20 := ⟨_, rfl⟩
  rw [← hY] at bs ⊢
  have st : SpR Y (sR (zr Y (c + 1 + 1 + 1 + 1)) c 3 (c + 1 + 1 + 1 + 1)) (c + 1 + 1 + 1 + 1) c 3 (c + 1 + 1 + 1 + 1) := ⟨fun r k hr => ⟨gI_zr hr, gD_zr hr, gL_zr hr⟩, fun r k hr h2 => (gR_ne h2).trans (gR_zr hr), gR_eq⟩
  exact i_heads C H 4000 0 _ (by omega) (by omega) ⟨bs.stp st (by omega) (Or.inr ⟨rfl, by decide⟩), st.2.2, fun h hh => by omega⟩

